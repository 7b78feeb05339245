section
-- ===== PART A: goes FIRST, ahead of the names: the tables' words, and 'selects' of the private methods out of them =====
/-- a private method of a class that the tables say can be made, by its rows of tables_1 -/
def lw_okq (q : MethodName × Nat) : Prop := (q.1.cls ≠ "java/lang/invoke/MethodHandle" ∧ q.1.cls ≠ "java/lang/invoke/VarHandle") ∧ Cond.instantiable q.1.cls q.2 ∈ tables_1 ∧ Cond.privateMethod q.1 ∈ tables_1 ∧ Cond.instanceMethod q.1 ∈ tables_1
theorem lw_p0 : lw_okq (⟨"PlaneFaces", "refresh", "()V"⟩, 4) := ⟨⟨by decide +kernel, by decide +kernel⟩, List.mem_of_getElem? (i := 15) (by decide +kernel), List.mem_of_getElem? (i := 177) (by decide +kernel), List.mem_of_getElem? (i := 178) (by decide +kernel)⟩
theorem lw_p1 : lw_okq (⟨"PlaneFaces$Rounds", "findCorners", "()V"⟩, 11) := ⟨⟨by decide +kernel, by decide +kernel⟩, List.mem_of_getElem? (i := 29) (by decide +kernel), List.mem_of_getElem? (i := 185) (by decide +kernel), List.mem_of_getElem? (i := 186) (by decide +kernel)⟩
theorem lw_p2 : lw_okq (⟨"PlaneFaces$Rounds", "firstClockwise", "(I)I"⟩, 11) := ⟨⟨by decide +kernel, by decide +kernel⟩, List.mem_of_getElem? (i := 29) (by decide +kernel), List.mem_of_getElem? (i := 193) (by decide +kernel), List.mem_of_getElem? (i := 194) (by decide +kernel)⟩
theorem lw_p3 : lw_okq (⟨"PlaneFaces$Segments", "turn", "(II)J"⟩, 4) := ⟨⟨by decide +kernel, by decide +kernel⟩, List.mem_of_getElem? (i := 35) (by decide +kernel), List.mem_of_getElem? (i := 201) (by decide +kernel), List.mem_of_getElem? (i := 202) (by decide +kernel)⟩
theorem lw_p4 : lw_okq (⟨"PlaneFaces$Rounds", "joinPieces", "()V"⟩, 11) := ⟨⟨by decide +kernel, by decide +kernel⟩, List.mem_of_getElem? (i := 29) (by decide +kernel), List.mem_of_getElem? (i := 208) (by decide +kernel), List.mem_of_getElem? (i := 209) (by decide +kernel)⟩
theorem lw_p5 : lw_okq (⟨"PlaneFaces$Rounds", "joinRoots", "(II)V"⟩, 11) := ⟨⟨by decide +kernel, by decide +kernel⟩, List.mem_of_getElem? (i := 29) (by decide +kernel), List.mem_of_getElem? (i := 212) (by decide +kernel), List.mem_of_getElem? (i := 213) (by decide +kernel)⟩
theorem lw_p6 : lw_okq (⟨"PlaneFaces$Rounds", "numberPieces", "()V"⟩, 11) := ⟨⟨by decide +kernel, by decide +kernel⟩, List.mem_of_getElem? (i := 29) (by decide +kernel), List.mem_of_getElem? (i := 222) (by decide +kernel), List.mem_of_getElem? (i := 223) (by decide +kernel)⟩
theorem lw_p7 : lw_okq (⟨"PlaneFaces$Rounds", "walkRounds", "()V"⟩, 11) := ⟨⟨by decide +kernel, by decide +kernel⟩, List.mem_of_getElem? (i := 29) (by decide +kernel), List.mem_of_getElem? (i := 226) (by decide +kernel), List.mem_of_getElem? (i := 227) (by decide +kernel)⟩
theorem lw_p8 : lw_okq (⟨"PlaneFaces$Rounds", "walk", "(I)V"⟩, 11) := ⟨⟨by decide +kernel, by decide +kernel⟩, List.mem_of_getElem? (i := 29) (by decide +kernel), List.mem_of_getElem? (i := 233) (by decide +kernel), List.mem_of_getElem? (i := 234) (by decide +kernel)⟩
theorem lw_p9 : lw_okq (⟨"PlaneFaces$Faces", "findHomes", "()V"⟩, 8) := ⟨⟨by decide +kernel, by decide +kernel⟩, List.mem_of_getElem? (i := 23) (by decide +kernel), List.mem_of_getElem? (i := 245) (by decide +kernel), List.mem_of_getElem? (i := 246) (by decide +kernel)⟩
theorem lw_p10 : lw_okq (⟨"PlaneFaces$Rounds", "markOddRounds", "(II)V"⟩, 11) := ⟨⟨by decide +kernel, by decide +kernel⟩, List.mem_of_getElem? (i := 29) (by decide +kernel), List.mem_of_getElem? (i := 257) (by decide +kernel), List.mem_of_getElem? (i := 258) (by decide +kernel)⟩
theorem lw_p11 : lw_okq (⟨"PlaneFaces$Segments", "rightward", "(I)I"⟩, 4) := ⟨⟨by decide +kernel, by decide +kernel⟩, List.mem_of_getElem? (i := 35) (by decide +kernel), List.mem_of_getElem? (i := 265) (by decide +kernel), List.mem_of_getElem? (i := 266) (by decide +kernel)⟩
theorem lw_p12 : lw_okq (⟨"PlaneFaces$Segments", "side", "(III)J"⟩, 4) := ⟨⟨by decide +kernel, by decide +kernel⟩, List.mem_of_getElem? (i := 35) (by decide +kernel), List.mem_of_getElem? (i := 269) (by decide +kernel), List.mem_of_getElem? (i := 270) (by decide +kernel)⟩
theorem lw_p13 : lw_okq (⟨"PlaneFaces$Faces", "numberFaces", "()V"⟩, 8) := ⟨⟨by decide +kernel, by decide +kernel⟩, List.mem_of_getElem? (i := 23) (by decide +kernel), List.mem_of_getElem? (i := 274) (by decide +kernel), List.mem_of_getElem? (i := 275) (by decide +kernel)⟩
theorem lw_p14 : lw_okq (⟨"java/lang/Throwable", "fillInStackTrace", "(I)Ljava/lang/Throwable;"⟩, 6) := ⟨⟨by decide +kernel, by decide +kernel⟩, List.mem_of_getElem? (i := 341) (by decide +kernel), List.mem_of_getElem? (i := 339) (by decide +kernel), List.mem_of_getElem? (i := 340) (by decide +kernel)⟩
theorem lw_p15 : lw_okq (⟨"PlaneFaces$Segments", "touches", "(II)Z"⟩, 4) := ⟨⟨by decide +kernel, by decide +kernel⟩, List.mem_of_getElem? (i := 35) (by decide +kernel), List.mem_of_getElem? (i := 400) (by decide +kernel), List.mem_of_getElem? (i := 401) (by decide +kernel)⟩
def lw_privs_1 : List (MethodName × Nat) := [(⟨"PlaneFaces", "refresh", "()V"⟩, 4), (⟨"PlaneFaces$Rounds", "findCorners", "()V"⟩, 11), (⟨"PlaneFaces$Rounds", "firstClockwise", "(I)I"⟩, 11), (⟨"PlaneFaces$Segments", "turn", "(II)J"⟩, 4), (⟨"PlaneFaces$Rounds", "joinPieces", "()V"⟩, 11), (⟨"PlaneFaces$Rounds", "joinRoots", "(II)V"⟩, 11), (⟨"PlaneFaces$Rounds", "numberPieces", "()V"⟩, 11), (⟨"PlaneFaces$Rounds", "walkRounds", "()V"⟩, 11), (⟨"PlaneFaces$Rounds", "walk", "(I)V"⟩, 11), (⟨"PlaneFaces$Faces", "findHomes", "()V"⟩, 8), (⟨"PlaneFaces$Rounds", "markOddRounds", "(II)V"⟩, 11), (⟨"PlaneFaces$Segments", "rightward", "(I)I"⟩, 4), (⟨"PlaneFaces$Segments", "side", "(III)J"⟩, 4), (⟨"PlaneFaces$Faces", "numberFaces", "()V"⟩, 8), (⟨"java/lang/Throwable", "fillInStackTrace", "(I)Ljava/lang/Throwable;"⟩, 6), (⟨"PlaneFaces$Segments", "touches", "(II)Z"⟩, 4)]
theorem lw_r1 : ∀ q ∈ lw_privs_1, lw_okq q := List.forall_mem_cons.mpr ⟨lw_p0, List.forall_mem_cons.mpr ⟨lw_p1, List.forall_mem_cons.mpr ⟨lw_p2, List.forall_mem_cons.mpr ⟨lw_p3, List.forall_mem_cons.mpr ⟨lw_p4, List.forall_mem_cons.mpr ⟨lw_p5, List.forall_mem_cons.mpr ⟨lw_p6, List.forall_mem_cons.mpr ⟨lw_p7, List.forall_mem_cons.mpr ⟨lw_p8, List.forall_mem_cons.mpr ⟨lw_p9, List.forall_mem_cons.mpr ⟨lw_p10, List.forall_mem_cons.mpr ⟨lw_p11, List.forall_mem_cons.mpr ⟨lw_p12, List.forall_mem_cons.mpr ⟨lw_p13, List.forall_mem_cons.mpr ⟨lw_p14, List.forall_mem_cons.mpr ⟨lw_p15, fun _ h => absurd h List.not_mem_nil⟩⟩⟩⟩⟩⟩⟩⟩⟩⟩⟩⟩⟩⟩⟩⟩
theorem lw_p16 : lw_okq (⟨"PlaneFaces$Segments", "holds", "(III)Z"⟩, 4) := ⟨⟨by decide +kernel, by decide +kernel⟩, List.mem_of_getElem? (i := 35) (by decide +kernel), List.mem_of_getElem? (i := 404) (by decide +kernel), List.mem_of_getElem? (i := 405) (by decide +kernel)⟩
theorem lw_p17 : lw_okq (⟨"PlaneFaces$Segments", "sameEnds", "(II)Z"⟩, 4) := ⟨⟨by decide +kernel, by decide +kernel⟩, List.mem_of_getElem? (i := 35) (by decide +kernel), List.mem_of_getElem? (i := 408) (by decide +kernel), List.mem_of_getElem? (i := 409) (by decide +kernel)⟩
theorem lw_p18 : lw_okq (⟨"PlaneFaces$Segments", "crosses", "(II)Z"⟩, 4) := ⟨⟨by decide +kernel, by decide +kernel⟩, List.mem_of_getElem? (i := 35) (by decide +kernel), List.mem_of_getElem? (i := 416) (by decide +kernel), List.mem_of_getElem? (i := 417) (by decide +kernel)⟩
theorem lw_p19 : lw_okq (⟨"PlaneFaces$Segments", "parts", "(II)Z"⟩, 4) := ⟨⟨by decide +kernel, by decide +kernel⟩, List.mem_of_getElem? (i := 35) (by decide +kernel), List.mem_of_getElem? (i := 420) (by decide +kernel), List.mem_of_getElem? (i := 421) (by decide +kernel)⟩
theorem lw_p20 : lw_okq (⟨"PlaneFaces", "requireHalf", "(I)V"⟩, 4) := ⟨⟨by decide +kernel, by decide +kernel⟩, List.mem_of_getElem? (i := 15) (by decide +kernel), List.mem_of_getElem? (i := 436) (by decide +kernel), List.mem_of_getElem? (i := 437) (by decide +kernel)⟩
theorem lw_p21 : lw_okq (⟨"PlaneFaces", "requireFace", "(I)V"⟩, 4) := ⟨⟨by decide +kernel, by decide +kernel⟩, List.mem_of_getElem? (i := 15) (by decide +kernel), List.mem_of_getElem? (i := 492) (by decide +kernel), List.mem_of_getElem? (i := 493) (by decide +kernel)⟩
theorem lw_p22 : lw_okq (⟨"PlaneFaces$Segments", "reachesAbove", "(III)Z"⟩, 4) := ⟨⟨by decide +kernel, by decide +kernel⟩, List.mem_of_getElem? (i := 35) (by decide +kernel), List.mem_of_getElem? (i := 549) (by decide +kernel), List.mem_of_getElem? (i := 550) (by decide +kernel)⟩
theorem lw_p23 : lw_okq (⟨"PlaneFaces$Segments", "height", "(III)J"⟩, 4) := ⟨⟨by decide +kernel, by decide +kernel⟩, List.mem_of_getElem? (i := 35) (by decide +kernel), List.mem_of_getElem? (i := 554) (by decide +kernel), List.mem_of_getElem? (i := 555) (by decide +kernel)⟩
theorem lw_p24 : lw_okq (⟨"PlaneFaces$Segments", "width", "(I)J"⟩, 4) := ⟨⟨by decide +kernel, by decide +kernel⟩, List.mem_of_getElem? (i := 35) (by decide +kernel), List.mem_of_getElem? (i := 559) (by decide +kernel), List.mem_of_getElem? (i := 560) (by decide +kernel)⟩
theorem lw_p25 : lw_okq (⟨"PlaneFaces$Faces", "cross", "(III)V"⟩, 8) := ⟨⟨by decide +kernel, by decide +kernel⟩, List.mem_of_getElem? (i := 23) (by decide +kernel), List.mem_of_getElem? (i := 577) (by decide +kernel), List.mem_of_getElem? (i := 578) (by decide +kernel)⟩
theorem lw_p26 : lw_okq (⟨"PlaneFacesModel", "refused", "(I)Z"⟩, 16) := ⟨⟨by decide +kernel, by decide +kernel⟩, List.mem_of_getElem? (i := 581) (by decide +kernel), List.mem_of_getElem? (i := 647) (by decide +kernel), List.mem_of_getElem? (i := 648) (by decide +kernel)⟩
theorem lw_p27 : lw_okq (⟨"PlaneFacesModel", "meets", "(IIIII)Z"⟩, 16) := ⟨⟨by decide +kernel, by decide +kernel⟩, List.mem_of_getElem? (i := 581) (by decide +kernel), List.mem_of_getElem? (i := 651) (by decide +kernel), List.mem_of_getElem? (i := 652) (by decide +kernel)⟩
theorem lw_p28 : lw_okq (⟨"PlaneFacesModel", "isEnd", "(III)Z"⟩, 16) := ⟨⟨by decide +kernel, by decide +kernel⟩, List.mem_of_getElem? (i := 581) (by decide +kernel), List.mem_of_getElem? (i := 655) (by decide +kernel), List.mem_of_getElem? (i := 656) (by decide +kernel)⟩
theorem lw_p29 : lw_okq (⟨"PlaneFacesModel", "make", "()V"⟩, 16) := ⟨⟨by decide +kernel, by decide +kernel⟩, List.mem_of_getElem? (i := 581) (by decide +kernel), List.mem_of_getElem? (i := 680) (by decide +kernel), List.mem_of_getElem? (i := 681) (by decide +kernel)⟩
theorem lw_p30 : lw_okq (⟨"PlaneFacesModel", "nextOf", "(I)I"⟩, 16) := ⟨⟨by decide +kernel, by decide +kernel⟩, List.mem_of_getElem? (i := 581) (by decide +kernel), List.mem_of_getElem? (i := 684) (by decide +kernel), List.mem_of_getElem? (i := 685) (by decide +kernel)⟩
theorem lw_p31 : lw_okq (⟨"PlaneFacesModel", "leaves", "(III)Z"⟩, 16) := ⟨⟨by decide +kernel, by decide +kernel⟩, List.mem_of_getElem? (i := 581) (by decide +kernel), List.mem_of_getElem? (i := 691) (by decide +kernel), List.mem_of_getElem? (i := 692) (by decide +kernel)⟩
def lw_privs_2 : List (MethodName × Nat) := [(⟨"PlaneFaces$Segments", "holds", "(III)Z"⟩, 4), (⟨"PlaneFaces$Segments", "sameEnds", "(II)Z"⟩, 4), (⟨"PlaneFaces$Segments", "crosses", "(II)Z"⟩, 4), (⟨"PlaneFaces$Segments", "parts", "(II)Z"⟩, 4), (⟨"PlaneFaces", "requireHalf", "(I)V"⟩, 4), (⟨"PlaneFaces", "requireFace", "(I)V"⟩, 4), (⟨"PlaneFaces$Segments", "reachesAbove", "(III)Z"⟩, 4), (⟨"PlaneFaces$Segments", "height", "(III)J"⟩, 4), (⟨"PlaneFaces$Segments", "width", "(I)J"⟩, 4), (⟨"PlaneFaces$Faces", "cross", "(III)V"⟩, 8), (⟨"PlaneFacesModel", "refused", "(I)Z"⟩, 16), (⟨"PlaneFacesModel", "meets", "(IIIII)Z"⟩, 16), (⟨"PlaneFacesModel", "isEnd", "(III)Z"⟩, 16), (⟨"PlaneFacesModel", "make", "()V"⟩, 16), (⟨"PlaneFacesModel", "nextOf", "(I)I"⟩, 16), (⟨"PlaneFacesModel", "leaves", "(III)Z"⟩, 16)]
theorem lw_r2 : ∀ q ∈ lw_privs_2, lw_okq q := List.forall_mem_cons.mpr ⟨lw_p16, List.forall_mem_cons.mpr ⟨lw_p17, List.forall_mem_cons.mpr ⟨lw_p18, List.forall_mem_cons.mpr ⟨lw_p19, List.forall_mem_cons.mpr ⟨lw_p20, List.forall_mem_cons.mpr ⟨lw_p21, List.forall_mem_cons.mpr ⟨lw_p22, List.forall_mem_cons.mpr ⟨lw_p23, List.forall_mem_cons.mpr ⟨lw_p24, List.forall_mem_cons.mpr ⟨lw_p25, List.forall_mem_cons.mpr ⟨lw_p26, List.forall_mem_cons.mpr ⟨lw_p27, List.forall_mem_cons.mpr ⟨lw_p28, List.forall_mem_cons.mpr ⟨lw_p29, List.forall_mem_cons.mpr ⟨lw_p30, List.forall_mem_cons.mpr ⟨lw_p31, fun _ h => absurd h List.not_mem_nil⟩⟩⟩⟩⟩⟩⟩⟩⟩⟩⟩⟩⟩⟩⟩⟩
theorem lw_p32 : lw_okq (⟨"PlaneFacesModel", "turned", "(II)I"⟩, 16) := ⟨⟨by decide +kernel, by decide +kernel⟩, List.mem_of_getElem? (i := 581) (by decide +kernel), List.mem_of_getElem? (i := 695) (by decide +kernel), List.mem_of_getElem? (i := 696) (by decide +kernel)⟩
theorem lw_p33 : lw_okq (⟨"PlaneFacesModel", "crossOf", "(II)J"⟩, 16) := ⟨⟨by decide +kernel, by decide +kernel⟩, List.mem_of_getElem? (i := 581) (by decide +kernel), List.mem_of_getElem? (i := 699) (by decide +kernel), List.mem_of_getElem? (i := 700) (by decide +kernel)⟩
theorem lw_p34 : lw_okq (⟨"PlaneFacesModel", "spreadPiece", "(II)V"⟩, 16) := ⟨⟨by decide +kernel, by decide +kernel⟩, List.mem_of_getElem? (i := 581) (by decide +kernel), List.mem_of_getElem? (i := 703) (by decide +kernel), List.mem_of_getElem? (i := 704) (by decide +kernel)⟩
theorem lw_p35 : lw_okq (⟨"PlaneFacesModel", "makeRound", "(I)V"⟩, 16) := ⟨⟨by decide +kernel, by decide +kernel⟩, List.mem_of_getElem? (i := 581) (by decide +kernel), List.mem_of_getElem? (i := 707) (by decide +kernel), List.mem_of_getElem? (i := 708) (by decide +kernel)⟩
theorem lw_p36 : lw_okq (⟨"PlaneFacesModel", "number", "()V"⟩, 16) := ⟨⟨by decide +kernel, by decide +kernel⟩, List.mem_of_getElem? (i := 581) (by decide +kernel), List.mem_of_getElem? (i := 711) (by decide +kernel), List.mem_of_getElem? (i := 712) (by decide +kernel)⟩
theorem lw_p37 : lw_okq (⟨"PlaneFacesModel", "least", "(III)I"⟩, 16) := ⟨⟨by decide +kernel, by decide +kernel⟩, List.mem_of_getElem? (i := 581) (by decide +kernel), List.mem_of_getElem? (i := 715) (by decide +kernel), List.mem_of_getElem? (i := 716) (by decide +kernel)⟩
theorem lw_p38 : lw_okq (⟨"PlaneFacesModel", "isWithin", "(III)Z"⟩, 16) := ⟨⟨by decide +kernel, by decide +kernel⟩, List.mem_of_getElem? (i := 581) (by decide +kernel), List.mem_of_getElem? (i := 719) (by decide +kernel), List.mem_of_getElem? (i := 720) (by decide +kernel)⟩
theorem lw_p39 : lw_okq (⟨"PlaneFacesModel", "left", "(I)I"⟩, 16) := ⟨⟨by decide +kernel, by decide +kernel⟩, List.mem_of_getElem? (i := 581) (by decide +kernel), List.mem_of_getElem? (i := 723) (by decide +kernel), List.mem_of_getElem? (i := 724) (by decide +kernel)⟩
theorem lw_p40 : lw_okq (⟨"PlaneFacesModel", "isHalf", "(I)Z"⟩, 16) := ⟨⟨by decide +kernel, by decide +kernel⟩, List.mem_of_getElem? (i := 581) (by decide +kernel), List.mem_of_getElem? (i := 731) (by decide +kernel), List.mem_of_getElem? (i := 732) (by decide +kernel)⟩
theorem lw_p41 : lw_okq (⟨"PlaneFacesModel", "outer", "(I)I"⟩, 16) := ⟨⟨by decide +kernel, by decide +kernel⟩, List.mem_of_getElem? (i := 581) (by decide +kernel), List.mem_of_getElem? (i := 751) (by decide +kernel), List.mem_of_getElem? (i := 752) (by decide +kernel)⟩
theorem lw_p42 : lw_okq (⟨"PlaneFacesModel", "isFace", "(I)Z"⟩, 16) := ⟨⟨by decide +kernel, by decide +kernel⟩, List.mem_of_getElem? (i := 581) (by decide +kernel), List.mem_of_getElem? (i := 759) (by decide +kernel), List.mem_of_getElem? (i := 760) (by decide +kernel)⟩
theorem lw_p43 : lw_okq (⟨"PlaneFacesModel", "isMet", "(III)Z"⟩, 16) := ⟨⟨by decide +kernel, by decide +kernel⟩, List.mem_of_getElem? (i := 581) (by decide +kernel), List.mem_of_getElem? (i := 775) (by decide +kernel), List.mem_of_getElem? (i := 776) (by decide +kernel)⟩
theorem lw_p44 : lw_okq (⟨"PlaneFacesModel", "height", "(III)J"⟩, 16) := ⟨⟨by decide +kernel, by decide +kernel⟩, List.mem_of_getElem? (i := 581) (by decide +kernel), List.mem_of_getElem? (i := 779) (by decide +kernel), List.mem_of_getElem? (i := 780) (by decide +kernel)⟩
theorem lw_p45 : lw_okq (⟨"PlaneFacesModel", "width", "(I)J"⟩, 16) := ⟨⟨by decide +kernel, by decide +kernel⟩, List.mem_of_getElem? (i := 581) (by decide +kernel), List.mem_of_getElem? (i := 784) (by decide +kernel), List.mem_of_getElem? (i := 785) (by decide +kernel)⟩
def lw_privs_3 : List (MethodName × Nat) := [(⟨"PlaneFacesModel", "turned", "(II)I"⟩, 16), (⟨"PlaneFacesModel", "crossOf", "(II)J"⟩, 16), (⟨"PlaneFacesModel", "spreadPiece", "(II)V"⟩, 16), (⟨"PlaneFacesModel", "makeRound", "(I)V"⟩, 16), (⟨"PlaneFacesModel", "number", "()V"⟩, 16), (⟨"PlaneFacesModel", "least", "(III)I"⟩, 16), (⟨"PlaneFacesModel", "isWithin", "(III)Z"⟩, 16), (⟨"PlaneFacesModel", "left", "(I)I"⟩, 16), (⟨"PlaneFacesModel", "isHalf", "(I)Z"⟩, 16), (⟨"PlaneFacesModel", "outer", "(I)I"⟩, 16), (⟨"PlaneFacesModel", "isFace", "(I)Z"⟩, 16), (⟨"PlaneFacesModel", "isMet", "(III)Z"⟩, 16), (⟨"PlaneFacesModel", "height", "(III)J"⟩, 16), (⟨"PlaneFacesModel", "width", "(I)J"⟩, 16)]
theorem lw_r3 : ∀ q ∈ lw_privs_3, lw_okq q := List.forall_mem_cons.mpr ⟨lw_p32, List.forall_mem_cons.mpr ⟨lw_p33, List.forall_mem_cons.mpr ⟨lw_p34, List.forall_mem_cons.mpr ⟨lw_p35, List.forall_mem_cons.mpr ⟨lw_p36, List.forall_mem_cons.mpr ⟨lw_p37, List.forall_mem_cons.mpr ⟨lw_p38, List.forall_mem_cons.mpr ⟨lw_p39, List.forall_mem_cons.mpr ⟨lw_p40, List.forall_mem_cons.mpr ⟨lw_p41, List.forall_mem_cons.mpr ⟨lw_p42, List.forall_mem_cons.mpr ⟨lw_p43, List.forall_mem_cons.mpr ⟨lw_p44, List.forall_mem_cons.mpr ⟨lw_p45, fun _ h => absurd h List.not_mem_nil⟩⟩⟩⟩⟩⟩⟩⟩⟩⟩⟩⟩⟩⟩
def lw_privs : List (MethodName × Nat) := lw_privs_1 ++ (lw_privs_2 ++ (lw_privs_3))
def lw_tbl : List Cond := k2_sels lw_privs ++ tables_1
theorem lw_privs_ok : ∀ q ∈ lw_privs, lw_okq q := by
  show ∀ q ∈ lw_privs_1 ++ (lw_privs_2 ++ (lw_privs_3)), lw_okq q
  exact List.forall_mem_append.mpr ⟨lw_r1, List.forall_mem_append.mpr ⟨lw_r2, lw_r3⟩⟩
-- ===== end of PART A; then your names; then what follows =====
end
section
/-! ===== BEGIN words of one list among another's, by their places ===== -/
theorem goodIn_r {big : List Cond} (ws : List Cond) (ps : List Nat) (hp : ws = ps.filterMap (fun i => big[i]?)) (h : ws.all goodWord = true) : GoodIn big ws := by
  intro w hw
  have h1 := List.all_eq_true.mp h w hw
  rw [hp] at hw
  obtain ⟨i, -, hi⟩ := List.mem_filterMap.mp hw
  have hm : w ∈ big := by first | exact List.mem_of_getElem? hi | exact List.getElem?_mem hi
  exact ⟨hm, good_of_word h1⟩
theorem goodIn_app {big a b : List Cond} (ha : GoodIn big a) (hb : GoodIn big b) : GoodIn big (a ++ b) := fun w h => (List.mem_append.mp h).elim (ha w) (hb w)
theorem goodIn_ca {big a b : List Cond} {c : Cond} (ha : GoodIn big (c :: a)) (hb : GoodIn big b) : GoodIn big (c :: (a ++ b)) := fun w h => (List.mem_cons.mp h).elim (fun e => ha w (List.mem_cons.mpr (Or.inl e))) (fun h => (List.mem_append.mp h).elim (fun h => ha w (List.mem_cons.mpr (Or.inr h))) (hb w))
theorem goodIn_sub {big ws : List Cond} (hm : ∀ w ∈ ws, w ∈ big) (h : ws.all goodWord = true) : GoodIn big ws := fun w hw => ⟨hm w hw, good_of_word (List.all_eq_true.mp h w hw)⟩
/-! ===== END ===== -/

/-! A callee's exception caught by a row of the caller's own table, whose class may be linked there for the first time. -/
section XCATCH
/-- the search ends with h, and the tables are then vm' -/
def xc_F (e : Env) (s : State) (f : JFrame) (a : Addr) (h : Handler) (vm' : Vm) : Prop :=
  ∀ (Q : Handler → Pre) (E : CtlPost) (d : Bool) (acts : List Action), wp (findHandler f a) Q E e d acts s ↔ Q h d acts (s.setVm vm')
/-- a row that covers the place and names a class: linked now; it takes the object, or the search goes on -/
theorem xc_row {Q : Handler → Pre} {E : CtlPost} {e : Env} {d : Bool} {acts : List Action} {s : State} {f : JFrame} {a : Addr} {x : ExceptionTableEntry} {t : List ExceptionTableEntry} {c : ClassId} {cell : Cell} (hx : covers x f.pc = true) (h0 : x.catchType ≠ 0)
    (hl : s.vm.ClassLinks e.platform f.method.cls x.catchType c) (hcell : s.heap[a]? = some cell) (hobj : ∀ k, cell.vm ≠ .statics k)
    (hk : ∃ k, s.vm.classes[cell.cls]? = some k) (hc : ∃ k, s.vm.classes[c]? = some k) :
    wp (findHandler.go f a (x :: t)) Q E e d acts s ↔
      if s.vm.assignable cell.cls c = true then Q (.found x.handlerPc) d acts (s.setVm (s.vm.noted f.method.cls x.catchType (.cls c)))
      else wp (findHandler.go f a t) Q E e d acts (s.setVm (s.vm.noted f.method.cls x.catchType (.cls c))) := by
  simp only [covers] at hx
  obtain ⟨ha, ht⟩ := (resolveClass_links e.toSetting hl).op (op := VmOp.resolveClass f.method.cls x.catchType) rfl
  have hal : s.vm.Alike (s.vm.noted f.method.cls x.catchType (.cls c)) := (Vm.Alike.refl s.vm).noted _ _ _
  obtain ⟨k1, hk1⟩ := hk
  obtain ⟨k2, hk2⟩ := hc
  obtain ⟨k1', hk1', -⟩ := hal.2.2 _ _ hk1
  obtain ⟨k2', hk2', -⟩ := hal.2.2 _ _ hk2
  cases hfit : s.vm.assignable cell.cls c
  · have hf' : (s.vm.noted f.method.cls x.catchType (.cls c)).assignable cell.cls c = false := by rw [hal.assignable]; exact hfit
    simp [findHandler.go, hx, h0, ha, ht, hcell, hobj, hk1', hk2', hf', VmOp.dirties, VmOp.acts]
  · have hf' : (s.vm.noted f.method.cls x.catchType (.cls c)).assignable cell.cls c = true := by rw [hal.assignable]; exact hfit
    simp [findHandler.go, hx, h0, ha, ht, hcell, hobj, hk1', hk2', hf', VmOp.dirties, VmOp.acts]
/-- the search through rows that don't take the object, up to the row that takes it -/
theorem xc_go {e : Env} {s₀ : State} {f : JFrame} {a : Addr} {cell : Cell} (hobj : ∀ k, cell.vm ≠ .statics k) (hk0 : ∃ k, s₀.vm.classes[cell.cls]? = some k)
    (x : ExceptionTableEntry) (rest : List ExceptionTableEntry) (hx : covers x f.pc = true) (h0 : x.catchType ≠ 0) {cx : ClassId} (hlx : s₀.vm.ClassLinks e.platform f.method.cls x.catchType cx) (hfx : s₀.vm.assignable cell.cls cx = true) :
    ∀ (pre : List ExceptionTableEntry) (S : State), s₀.WarmedH S.vm → S.heap[a]? = some cell →
      (∀ y ∈ pre, covers y f.pc = false ∨ (y.catchType ≠ 0 ∧ ∃ c, s₀.vm.ClassLinks e.platform f.method.cls y.catchType c ∧ s₀.vm.assignable cell.cls c = false)) →
      ∃ vm', s₀.WarmedH vm' ∧ ∀ (Q : Handler → Pre) (E : CtlPost) (d : Bool) (acts : List Action), wp (findHandler.go f a (pre ++ x :: rest)) Q E e d acts S ↔ Q (.found x.handlerPc) d acts (S.setVm vm') := by
  obtain ⟨k0, hk0⟩ := hk0
  have known : ∀ {S : State} {y : ExceptionTableEntry} {c : ClassId}, s₀.WarmedH S.vm → s₀.vm.ClassLinks e.platform f.method.cls y.catchType c →
      (∃ k, S.vm.classes[cell.cls]? = some k) ∧ (∃ k, S.vm.classes[c]? = some k) ∧ s₀.WarmedH (S.vm.noted f.method.cls y.catchType (.cls c)) := by
    intro S y c hW hl
    obtain ⟨k0', hk0', -⟩ := hW.alike.2.2 _ _ hk0
    obtain ⟨dk, _, _, kt, hd, _, _, _, _, hkt, _, hopen⟩ := hl.here
    obtain ⟨kt', hkt', -⟩ := hW.alike.2.2 _ _ hkt
    exact ⟨⟨k0', hk0'⟩, ⟨kt', hkt'⟩, hW.noted hd hopen (State.rightAt_cls hl)⟩
  intro pre
  induction pre with
  | nil =>
    intro S hW hcell _
    obtain ⟨h1, h2, h3⟩ := known (y := x) hW hlx
    refine ⟨_, h3, fun Q E d acts => ?_⟩
    rw [List.nil_append, xc_row hx h0 (hW.classLinks hlx) hcell hobj h1 h2, if_pos (by rw [hW.alike.assignable]; exact hfx)]
  | cons y ys ih =>
    intro S hW hcell hpass
    have hrest := fun z hz => hpass z (List.mem_cons_of_mem _ hz)
    by_cases hcov : covers y f.pc = true
    · rcases hpass y List.mem_cons_self with h | ⟨hy0, c, hl, hno⟩
      · rw [h] at hcov; cases hcov
      · obtain ⟨h1, h2, h3⟩ := known (y := y) hW hl
        obtain ⟨vm', hW', hq⟩ := ih (S.setVm (S.vm.noted f.method.cls y.catchType (.cls c))) h3 hcell hrest
        refine ⟨vm', hW', fun Q E d acts => ?_⟩
        rw [List.cons_append, xc_row hcov hy0 (hW.classLinks hl) hcell hobj h1 h2, if_neg (by rw [hW.alike.assignable, hno]; exact Bool.false_ne_true)]
        exact hq Q E d acts
    · obtain ⟨vm', hW', hq⟩ := ih S hW hcell hrest
      refine ⟨vm', hW', fun Q E d acts => ?_⟩
      rw [List.cons_append, W.findHandler_go_skip (by simpa using hcov)]
      exact hq Q E d acts
theorem xc_frames (u : State) (vm' : Vm) (F G : List Frame) : ((u.setFrames F).setVm vm').setFrames G = (u.setVm vm').setFrames G := by
  have h1 : (u.setFrames F).setVm vm' = (u.setVm vm').setFrames F := rfl
  rw [h1, State.setFrames_setFrames]
/-- one step: the frame goes on at the handler, with the object alone on its stack -/
theorem xc_step {tb : Tables} {e : Env} {s target : State} {g : JFrame} {c : Code} {below : List Frame} {a : Addr} (h : At s g.method c below) {pc : Nat} {vm' : Vm}
    (hfind : xc_F e ((s.setTop g).pushFrame (.throwing a)) g a (.found pc) vm') (hrest : Steps tb e below ((s.setVm vm').setTop { g with pc := pc, stack := [.ref a] }) target) :
    Steps tb e below ((s.setTop g).pushFrame (.throwing a)) target := by
  obtain ⟨hgo, hw⟩ := h.throwing a
  refine Steps.head hgo hw ?_
  have key : ∀ r, (stepThrowing e ((s.setTop g).pushFrame (.throwing a)) a (.java g :: r)).Is ((((s.setTop g).pushFrame (.throwing a)).setVm vm').setFrames (.java { g with pc := pc, stack := [.ref a] } :: r)) [] := by
    intro r
    simp only [stepThrowing, searchFrame, vmDo]
    generalize hr : Sem.go _ e false [] _ = res
    obtain ⟨as, rfl, ha⟩ := Sem.eq_ok_of hr (a := Handler.found pc) (s' := ((s.setTop g).pushFrame (.throwing a)).setVm vm') (acts' := []) (by simp [hfind _ _ _ _])
    exact ⟨rfl, ha⟩
  rw [stepThread_throwing (frames_entered h.top _), (key _).1]
  obtain ⟨g₀, hg⟩ := Option.isSome_iff_exists.mp h.top
  obtain ⟨r, hr⟩ := State.topJava?_eq_some.mp hg
  have hr' : (s.setVm vm').frames = .java g₀ :: r := hr
  rw [State.setTop_of_frames _ hr'] at hrest
  rw [hr, List.tail_cons, State.pushFrame, xc_frames, State.setTop_of_frames _ hr, xc_frames]
  exact hrest
theorem xc_caught {p : Program} {l : Launch} {e : Env} {R : Room} {s : State} {m₀ : MethodId} {args : Array Value} {below : List Frame} {meth : Method} {c : Code} {T : State} {locs : List Loc} {cells slots : Nat}
    (X : Stand p l e R s m₀ args below meth c T locs cells slots) (a : Addr) {g : JFrame} (hg : g.method = m₀) {cell : Cell} (hcell : T.heap[a]? = some cell) (hobj : cell.vm.isStatics = false) (hk0 : ∃ k, s.vm.classes[cell.cls]? = some k)
    (pre : List ExceptionTableEntry) (x : ExceptionTableEntry) (rest : List ExceptionTableEntry) (hsplit : c.exceptionTable.toList = pre ++ x :: rest)
    (hpass : ∀ y ∈ pre, covers y g.pc = false ∨ (y.catchType ≠ 0 ∧ ∃ c, s.vm.ClassLinks e.platform m₀.cls y.catchType c ∧ s.vm.assignable cell.cls c = false))
    (hx : covers x g.pc = true) (h0 : x.catchType ≠ 0) {cx : ClassId} (hlx : s.vm.ClassLinks e.platform m₀.cls x.catchType cx) (hfx : s.vm.assignable cell.cls cx = true) :
    ∃ vm', Stand p l e R s m₀ args below meth c (T.setVm vm') locs cells slots ∧ Steps p.tables e below ((T.setTop g).pushFrame (.throwing a)) ((T.setVm vm').setTop { g with pc := x.handlerPc, stack := [.ref a] }) := by
  subst hg
  obtain ⟨vm', hW', hq⟩ := xc_go (e := e) (s₀ := s) (f := g) (a := a) (cell := cell) (VmData.ne_statics_of hobj) hk0 x rest hx h0 hlx hfx pre ((T.setTop g).pushFrame (.throwing a)) X.warmed hcell hpass
  refine ⟨vm', X.noted hW', xc_step X.here (fun Q E d acts => ?_) (Steps.refl _)⟩
  rw [W.findHandler_eq (s := (T.setTop g).pushFrame (.throwing a)) (meth := meth) (code := c) X.method' X.code, hsplit]
  exact hq Q E d acts
end XCATCH
/-! ===== BEGIN exceptions that leave a method, and their catching by the caller (launches without stack traces) ===== -/
section VXA
/-! The laws vx_back, vx_callV, vx_callS, vx_callSW, vx_throw0, vx_throwS follow proofs of the library, with one case more: JvmDerived/Free/Laws.lean (Back.of_free), Shelf42/LK1.lean (callV, callS), Shelf/KitTraced.lean (throwNew0V, throwNewS). -/
/-- where a method has thrown q: the class by its name, the cell, what was written, the world -/
def vx_T (XC : String → State → State → Prop) (st : State) (q : Addr) (t : State) (mc ms : Nat) (free : Addr → Prop) : Prop :=
  ∃ (E : String) (ce : Cell) (L : List Loc), XC E st t ∧ t.heap[q]? = some ce ∧ ce.vm = .none ∧ st.vm.findClass E = some ce.cls ∧ st.WarmedH t.vm ∧ st.sameButNew ({ t with vm := st.vm } : State) L mc ms ∧ ∀ z ∈ L, free z.base
def vx_Q (Qc : Array Value → State → Outcome → State → Prop) (XC : String → State → State → Prop) (mc ms : Nat) (free : Addr → Prop) : Array Value → State → Outcome → State → Prop := fun a st o t =>
  (Qc a st o t ∧ ∃ L, FrameEnd st o t L mc ms ∧ ∀ q ∈ L, free q.base) ∨ ∃ q, o = .threw q ∧ vx_T XC st q t mc ms free
/-- a callee that returns or throws -/
def vx_Met (l : Launch) (y : MethodName) (ws : List Cond) (rm : Room) (Pc : Array Value → State → Prop) (Qc : Array Value → State → Outcome → State → Prop) (XC : String → State → State → Prop) (mc ms : Nat) (free : Addr → Prop) : Prop :=
  MetFree l y (headSpec ws rm) Pc (fun _ _ _ _ _ => True) (vx_Q Qc XC mc ms free)
def vx_Post (XC : String → State → State → Prop) (mc ms : Nat) (free : Addr → Prop) : Pt → Array Value → Addr → Pt → Prop := fun A a q B =>
  ∃ (g : JFrame) (mk : MethodId) (t : State) (L : List Loc) (E : String) (ce : Cell), B.U.heap = t.heap ∧ B.U.vm = t.vm ∧ XC E (A.U.calling g mk a) t ∧ t.heap[q]? = some ce ∧ ce.vm = .none ∧ A.U.vm.findClass E = some ce.cls ∧ B.locs = A.locs ++ L ∧ (∀ z ∈ L, free z.base) ∧ B.cells = A.cells + mc ∧ B.slots = A.slots + ms
def vx_Back (l : Launch) (R : Room) (p : Program) (e : Env) (below : List Frame) (s : State) (sargs : Array Value) (y : MethodName) (len W9 : Nat)
    (Pre : Pt → Array Value → Prop) (Post : Pt → Array Value → Option Value → Pt → Prop) (PostX : Pt → Array Value → Addr → Pt → Prop) : Prop :=
  ∀ (m : MethodId) (meth : Method) (c : Code) (A : Pt) (g : JFrame) (ig : Instr) (mk : MethodId) (a : Array Value),
    Stand p l e R s m sargs below meth c A.U A.locs A.cells A.slots → g.method = m → g.locals.size = c.maxLocals → decode c.code g.pc = .ok (ig, len) →
    2 * g.monitorRoom + (g.stack.map fun v => v.category).sum ≤ W9 → A.U.methodNamed? y = some mk → Pre A a →
    (∃ (v : Option Value) (B : Pt), Stand p l e R s m sargs below meth c B.U B.locs B.cells B.slots ∧ Post A a v B ∧
      Steps p.tables e below (doInvoke e (A.U.setTop g) [] mk a).1 (B.U.setTop { g with pc := g.pc + len, stack := v.toList ++ g.stack })) ∨
    (∃ (q : Addr) (B : Pt), Stand p l e R s m sargs below meth c B.U B.locs B.cells B.slots ∧ PostX A a q B ∧
      Steps p.tables e below (doInvoke e (A.U.setTop g) [] mk a).1 ((B.U.setTop g).pushFrame (.throwing q)))
section Payer
variable {l : Launch} {R : Room} {p : Program} {e : Env} {below : List Frame} {s : State} {sargs : Array Value} {y : MethodName} {len W9 : Nat}
theorem vx_back {ws : List Cond} {rm : Room} {Pc : Array Value → State → Prop} {Qc : Array Value → State → Outcome → State → Prop} {XC : String → State → State → Prop} {mc ms : Nat} {free : Addr → Prop} {bytes : ByteArray} {maxL : Nat} {ret : Option FieldType}
    (hM : vx_Met l y ws rm Pc Qc XC mc ms free) (hblind : FrameBlind Pc) (hrc : rm.cells = mc) (hrs : rm.slots = ms)
    (hframes : rm.frames + 1 ≤ R.frames) (hlocals : W9 + (maxL + 11) + rm.locals ≤ R.locals)
    (hws : ∀ w ∈ ws, ∀ a' U, s.WarmedH U.vm → w.before a' U = true) (hcode : Cond.code y bytes maxL ret ∈ ws) (hinit : ∀ a' U, s.WarmedH U.vm → (Cond.initialized y.cls).before a' U = true) :
    vx_Back l R p e below s sargs y len W9 (PreOf R mc ms Pc) (PostOf Qc mc ms free) (vx_Post XC mc ms free) := by
  intro m meth c A g ig mk a X hg hsize hdg hW hn hp
  have h1 : (headSpec ws rm).pre.before a A.U = true := atoms_intro fun w hw => hws w hw _ _ X.warmed
  have h2 : (Cond.code y bytes maxL ret).before a A.U = true := hws _ hcode _ _ X.warmed
  have h3 : (Cond.initialized y.cls).before a A.U = true := hinit _ _ X.warmed
  have h4 : A.cells + (headSpec ws rm).room.cells ≤ R.cells := by rw [show (headSpec ws rm).room.cells = mc from hrc]; exact hp.1
  have h5 : A.slots + (headSpec ws rm).room.slots ≤ R.slots := by rw [show (headSpec ws rm).room.slots = ms from hrs]; exact hp.2.1
  have hPc : Pc a (A.U.calling g mk a) := hblind _ _ _ _ hp.2.2
  obtain ⟨U, Ls, c0, s0⟩ := A
  dsimp only [Pt.U, Pt.locs, Pt.cells, Pt.slots] at h1 h2 h3 h4 h5 X hn hPc ⊢
  obtain ⟨methY, cY, hmY, hcY, -, hlY, -, -, -, -⟩ := Cond.code_spec hn h2
  obtain ⟨kY, hkY, -⟩ := className_of_methodNamed hn
  have hinitY : kY.init = .initialized := Cond.initialized_spec (findClass_of_methodNamed hn) hkY h3
  have h : At U g.method c below := by rw [hg]; exact X.here
  have hlocals9 : W9 + (maxL + 11) + (headSpec ws rm).room.locals ≤ R.locals := hlocals
  have happ : (headSpec ws rm).appliesLoose y e.platform (U.calling g mk a) = true :=
    Spec.appliesLoose_calling (g := g) h hdg hn hkY hinitY
      (X.room_calling (g := g) (R' := (headSpec ws rm).room) hsize hmY hcY hframes (by rw [hlY]; omega) h4 h5) h1
  obtain ⟨mid, hmid⟩ := h.above
  have hfr : (U.setTop g).frames = (.java g :: mid) ++ below := by rw [State.frames_setTop' g h.top, hmid]; rfl
  obtain ⟨o, s₂, hsteps, -, hend, hq⟩ := Steps.callFree hM p X.admits X.cas X.clock (acts := []) hfr happ hPc trivial
  have hq' : vx_Q Qc XC mc ms free a (U.calling g mk a) o s₂ := hq
  rw [State.frames_setTop' g h.top] at hend
  obtain ⟨g₀, hg0⟩ := Option.isSome_iff_exists.mp h.top
  obtain ⟨r, hr⟩ := State.topJava?_eq_some.mp hg0
  have hr' : (({ U with heap := s₂.heap, slotsUsed := s₂.slotsUsed } : State).setVm s₂.vm).frames = .java g₀ :: r := hr
  rcases hq' with ⟨hqc, L, hfe, hL⟩ | ⟨q, rfl, E, ce, L, hx, hce, hcv, hcl, hW₂, hsm, hL⟩
  · obtain ⟨⟨v, rfl⟩, hW₂, e2, q2, q3, q4, q5, q6⟩ := id hfe
    have e3 : s₂ = ({ (U.calling g mk a).setFrames s₂.frames with heap := s₂.heap, slotsUsed := s₂.slotsUsed } : State).setVm s₂.vm := by
      have : s₂ = ({ s₂ with vm := (U.calling g mk a).vm } : State).setVm s₂.vm := rfl
      rw [e2] at this
      exact this
    obtain ⟨c₂, i₂, len₂, hc₂, hd₂, hf₂⟩ := hend
    have hW' : U.WarmedH s₂.vm := hW₂
    have hcc : c₂ = c := by
      have h1 : s₂.code? g.method = U.code? g.method := by
        rw [State.code?_eq, State.code?_eq, hW'.alike.method?]
      exact Option.some.inj (hc₂.symm.trans (h1.trans h.code))
    subst hcc
    have hlen : len₂ = len := by rw [hdg] at hd₂; cases hd₂; rfl
    subst hlen
    have hs₂ : s₂ = (({ U with heap := s₂.heap, slotsUsed := s₂.slotsUsed } : State).setVm s₂.vm).setTop { g with pc := g.pc + len₂, stack := v.toList ++ g.stack } := by
      refine e3.trans ?_
      rw [hf₂, State.calling_eq h.top, State.setFrames_setFrames, State.setTop_of_frames _ hr', hr]
      rfl
    have hsame : U.sameButNew ({ U with heap := s₂.heap, slotsUsed := s₂.slotsUsed } : State) L mc ms := by
      refine ⟨?_, q2, q3, q4, q5, q6⟩
      obtain ⟨t, ht, -⟩ := State.frames_cons hr
      show ({ U with heap := s₂.heap, slotsUsed := s₂.slotsUsed } : State) = { U.setFrames U.frames with heap := s₂.heap, slotsUsed := s₂.slotsUsed }
      rw [State.setFrames_self ht]
    subst hg
    refine Or.inl ⟨v, ⟨(({ U with heap := s₂.heap, slotsUsed := s₂.slotsUsed } : State).setVm s₂.vm), Ls ++ L, c0 + mc, s0 + ms⟩,
      ⟨X.admits, X.cas, X.clock, X.frames, X.room, X.hears, X.method, X.code, (X.here.setHeapUsed s₂.heap s₂.slotsUsed).setVm hW'.alike, X.tail, State.WarmedH.trans X.warmed hW', X.limits, X.bytes, X.same.trans (hsame.setVm s.vm)⟩,
      ⟨g, mk, s₂, L, rfl, rfl, hqc, rfl, hL, rfl, rfl⟩, ?_⟩
    show Steps p.tables e below _ ((({ U with heap := s₂.heap, slotsUsed := s₂.slotsUsed } : State).setVm s₂.vm).setTop { g with pc := g.pc + len₂, stack := v.toList ++ g.stack })
    rw [← hs₂]
    exact hsteps
  · obtain ⟨e2, q2, q3, q4, q5, q6⟩ := id hsm
    have e3 : s₂ = ({ (U.calling g mk a).setFrames s₂.frames with heap := s₂.heap, slotsUsed := s₂.slotsUsed } : State).setVm s₂.vm := by
      have : s₂ = ({ s₂ with vm := (U.calling g mk a).vm } : State).setVm s₂.vm := rfl
      rw [e2] at this
      exact this
    have hf₂ : s₂.frames = .throwing q :: .java g :: U.frames.tail := hend
    have hW' : U.WarmedH s₂.vm := hW₂
    have hs₂ : s₂ = ((({ U with heap := s₂.heap, slotsUsed := s₂.slotsUsed } : State).setVm s₂.vm).setTop g).pushFrame (.throwing q) := by
      refine e3.trans ?_
      rw [hf₂, State.calling_eq h.top, State.setFrames_setFrames, State.pushFrame, State.frames_setTop _ hr', State.setTop_of_frames _ hr', State.setFrames_setFrames, hr]
      rfl
    have hsame : U.sameButNew ({ U with heap := s₂.heap, slotsUsed := s₂.slotsUsed } : State) L mc ms := by
      refine ⟨?_, q2, q3, q4, q5, q6⟩
      obtain ⟨t, ht, -⟩ := State.frames_cons hr
      show ({ U with heap := s₂.heap, slotsUsed := s₂.slotsUsed } : State) = { U.setFrames U.frames with heap := s₂.heap, slotsUsed := s₂.slotsUsed }
      rw [State.setFrames_self ht]
    subst hg
    refine Or.inr ⟨q, ⟨(({ U with heap := s₂.heap, slotsUsed := s₂.slotsUsed } : State).setVm s₂.vm), Ls ++ L, c0 + mc, s0 + ms⟩,
      ⟨X.admits, X.cas, X.clock, X.frames, X.room, X.hears, X.method, X.code, (X.here.setHeapUsed s₂.heap s₂.slotsUsed).setVm hW'.alike, X.tail, State.WarmedH.trans X.warmed hW', X.limits, X.bytes, X.same.trans (hsame.setVm s.vm)⟩,
      ⟨g, mk, s₂, L, E, ce, rfl, rfl, hx, hce, hcv, hcl, rfl, hL, rfl, rfl⟩, ?_⟩
    show Steps p.tables e below _ (((({ U with heap := s₂.heap, slotsUsed := s₂.slotsUsed } : State).setVm s₂.vm).setTop g).pushFrame (.throwing q))
    rw [← hs₂]
    exact hsteps
end Payer
section Calls
variable {p : Program} {l : Launch} {e : Env} {R : Room} {s : State} {m : MethodId} {args : Array Value} {below : List Frame} {meth : Method} {c : Code} {T : State} {locs : List Loc} {cells slots : Nat}
theorem vx_callV (X : Stand p l e R s m args below meth c T locs cells slots) (hexec : p.tables.exec = Jvm.exec) {own C : String} {index : Nat} {y : MethodName} {bytes : ByteArray} {maxL : Nat} {ret : Option FieldType}
    (hown : s.vm.findClass own = some m.cls) (hlink : (Cond.methodLink own index y).before args s = true) (hinst : (Cond.instanceMethod y).before args s = true) (hsel : (Cond.selects C y y).before args s = true)
    (hcode : (Cond.code y bytes maxL ret).before args s = true) (hy : y.cls ≠ "java/lang/invoke/MethodHandle" ∧ y.cls ≠ "java/lang/invoke/VarHandle")
    {W9 : Nat} {Pre : Pt → Array Value → Prop} {Post : Pt → Array Value → Option Value → Pt → Prop} {PostX : Pt → Array Value → Addr → Pt → Prop} (hK : vx_Back l R p e below s args y 3 W9 Pre Post PostX)
    {b : Addr} {cellB : Cell} (hcell : T.heap[b]? = some cellB) (hobj : cellB.vm.isStatics = false) (hcls : s.vm.findClass C = some cellB.cls)
    {g : JFrame} (hg : g.method = m) (hsize : g.locals.size = c.maxLocals) {argsL rest : List Value} (hlen : ∀ sig, parseMethodDescriptor y.desc = some sig → argsL.length = sig.parameters.length)
    (hstack : g.stack = argsL.reverse ++ .ref b :: rest) (hW : 2 * g.monitorRoom + (rest.map fun v => v.category).sum ≤ W9) (hdg : decode c.code g.pc = .ok (.invokevirtual index, 3))
    (hpre : ∀ vm₁, s.WarmedH vm₁ → Pre ⟨T.setVm vm₁, locs, cells, slots⟩ (Value.ref b :: argsL).toArray) :
    (∃ (v : Option Value) (vm₁ : Vm) (B : Pt), s.WarmedH vm₁ ∧ Stand p l e R s m args below meth c B.U B.locs B.cells B.slots ∧ Post ⟨T.setVm vm₁, locs, cells, slots⟩ (Value.ref b :: argsL).toArray v B ∧
      ∀ target, Steps p.tables e below (B.U.setTop { g with pc := g.pc + 3, stack := v.toList ++ rest }) target → Steps p.tables e below (T.setTop g) target) ∨
    (∃ (q : Addr) (vm₁ : Vm) (B : Pt), s.WarmedH vm₁ ∧ Stand p l e R s m args below meth c B.U B.locs B.cells B.slots ∧ PostX ⟨T.setVm vm₁, locs, cells, slots⟩ (Value.ref b :: argsL).toArray q B ∧
      Steps p.tables e below (T.setTop g) ((B.U.setTop { g with stack := rest }).pushFrame (.throwing q))) := by
  obtain ⟨mk, methM, hnamed, hmethM, hstM, habM⟩ := Cond.instanceMethod_spec hinst
  obtain ⟨methM', cM, hmethM', -, -, -, -, -, -, hsigM⟩ := Cond.code_spec hnamed hcode
  cases hmethM.symm.trans hmethM'
  obtain ⟨c2, r2, m2, q1, q2, q3, q4, kP, hkP, hkPi⟩ := Cond.selects_spec hsel
  cases hcls.symm.trans q1
  cases (State.methodFound?_of_named hnamed hy).symm.trans q2
  cases hnamed.symm.trans q3
  have hselP : selectMethod e.platform s.vm cellB.cls mk = .method mk := by rw [Launch.admits_selectMethod X.admits]; exact q4
  obtain ⟨vm₁, X₁, hstep₁⟩ := X.invokevirtual hexec hown hlink hnamed hmethM hstM hkP hkPi hy (a := b) (cell := cellB) hcell
    (fun z h => by rw [h] at hobj; cases hobj) hselP hmethM habM hkP hkPi (g := g) hg (argsL := argsL) (rest := rest) (hlen _ hsigM) hstack hdg
  rcases hK m meth c ⟨T.setVm vm₁, locs, cells, slots⟩ { g with stack := rest } (.invokevirtual index) mk (Value.ref b :: argsL).toArray X₁ hg hsize hdg hW (X₁.named hnamed) (hpre vm₁ X₁.warmed) with ⟨v, B, X', hpost, hsteps⟩ | ⟨q, B, X', hpost, hsteps⟩
  · exact Or.inl ⟨v, vm₁, B, X₁.warmed, X', hpost, fun target h => hstep₁ _ fun acts => by rw [doInvoke_state]; exact hsteps.trans h⟩
  · exact Or.inr ⟨q, vm₁, B, X₁.warmed, X', hpost, hstep₁ _ fun acts => by rw [doInvoke_state]; exact hsteps⟩
theorem vx_callS (X : Stand p l e R s m args below meth c T locs cells slots) (hexec : p.tables.exec = Jvm.exec) {own : String} {index : Nat} {y : MethodName} {bytes : ByteArray} {maxL : Nat} {ret : Option FieldType}
    (hown : s.vm.findClass own = some m.cls) (hlink : (Cond.methodLink own index y).before args s = true) (hstat : (Cond.static y).before args s = true) (hinit : (Cond.initialized y.cls).before args s = true)
    (hcode : (Cond.code y bytes maxL ret).before args s = true) (hy : y.cls ≠ "java/lang/invoke/MethodHandle" ∧ y.cls ≠ "java/lang/invoke/VarHandle")
    {W9 : Nat} {Pre : Pt → Array Value → Prop} {Post : Pt → Array Value → Option Value → Pt → Prop} {PostX : Pt → Array Value → Addr → Pt → Prop} (hK : vx_Back l R p e below s args y 3 W9 Pre Post PostX)
    {g : JFrame} (hg : g.method = m) (hsize : g.locals.size = c.maxLocals) {argsL rest : List Value} (hlen : ∀ sig, parseMethodDescriptor y.desc = some sig → argsL.length = sig.parameters.length)
    (hstack : g.stack = argsL.reverse ++ rest) (hW : 2 * g.monitorRoom + (rest.map fun v => v.category).sum ≤ W9) (hdg : decode c.code g.pc = .ok (.invokestatic index, 3))
    (hpre : ∀ vm₁, s.WarmedH vm₁ → Pre ⟨T.setVm vm₁, locs, cells, slots⟩ argsL.toArray) :
    (∃ (v : Option Value) (vm₁ : Vm) (B : Pt), s.WarmedH vm₁ ∧ Stand p l e R s m args below meth c B.U B.locs B.cells B.slots ∧ Post ⟨T.setVm vm₁, locs, cells, slots⟩ argsL.toArray v B ∧
      ∀ target, Steps p.tables e below (B.U.setTop { g with pc := g.pc + 3, stack := v.toList ++ rest }) target → Steps p.tables e below (T.setTop g) target) ∨
    (∃ (q : Addr) (vm₁ : Vm) (B : Pt), s.WarmedH vm₁ ∧ Stand p l e R s m args below meth c B.U B.locs B.cells B.slots ∧ PostX ⟨T.setVm vm₁, locs, cells, slots⟩ argsL.toArray q B ∧
      Steps p.tables e below (T.setTop g) ((B.U.setTop { g with stack := rest }).pushFrame (.throwing q))) := by
  obtain ⟨mk, hnamed⟩ := Cond.code_named hcode
  obtain ⟨methM, cM, hmethM, -, -, -, -, -, -, hsigM⟩ := Cond.code_spec hnamed hcode
  have hstatic : methM.isStatic = true := Cond.static_spec hnamed hmethM hstat
  obtain ⟨kP, hkP, -⟩ := className_of_methodNamed hnamed
  have hinitP : kP.init = .initialized := Cond.initialized_spec (findClass_of_methodNamed hnamed) hkP hinit
  obtain ⟨vm₁, X₁, hstep₁⟩ := X.invokestatic hexec hown hlink hnamed hmethM hstatic hkP hinitP hy (g := g) hg (argsL := argsL) (rest := rest) (hlen _ hsigM) hstack hdg
  rcases hK m meth c ⟨T.setVm vm₁, locs, cells, slots⟩ { g with stack := rest } (.invokestatic index) mk argsL.toArray X₁ hg hsize hdg hW (X₁.named hnamed) (hpre vm₁ X₁.warmed) with ⟨v, B, X', hpost, hsteps⟩ | ⟨q, B, X', hpost, hsteps⟩
  · exact Or.inl ⟨v, vm₁, B, X₁.warmed, X', hpost, fun target h => hstep₁ _ fun acts => by rw [doInvoke_state]; exact hsteps.trans h⟩
  · exact Or.inr ⟨q, vm₁, B, X₁.warmed, X', hpost, hstep₁ _ fun acts => by rw [doInvoke_state]; exact hsteps⟩
end Calls
theorem vx_cls {s : State} {T : State} {vm₁ : Vm} {E : String} {k : ClassId} (hW : s.WarmedH vm₁) (h : (T.setVm vm₁).vm.findClass E = some k) : s.vm.findClass E = some k := by
  have h1 : vm₁.findClass E = some k := h
  rw [hW.alike.findClass] at h1
  exact h1
/-- the method's frame g, with q thrown over it -/
def vx_W (p : Program) (l : Launch) (e : Env) (R : Room) (s : State) (m : MethodId) (args : Array Value) (below : List Frame) (meth : Method) (c : Code) (H : Heap) (locs : List Loc) (cells slots : Nat) (Q : State → Prop) (g : JFrame) (q : Addr) : Prop :=
  ∀ T : State, T.heap = H → Stand p l e R s m args below meth c T locs cells slots → ∃ t, Steps p.tables e below ((T.setTop g).pushFrame (.throwing q)) t ∧ Q t
def vx_Run (p : Program) (l : Launch) (e : Env) (R : Room) (s : State) (m : MethodId) (args : Array Value) (below : List Frame) (meth : Method) (c : Code) (H : Heap) (locs : List Loc) (cells slots mc ms : Nat) (g : JFrame) (rest : List Value) (Qa : State → Outcome → State → Prop) (XC : String → State → State → Prop) (free : Addr → Prop) : Prop :=
  ∀ T : State, T.heap = H → Stand p l e R s m args below meth c T locs cells slots →
    (∃ (v : Option Value) (st₀ t T' : State) (L : List Loc), st₀.heap = H ∧ Stand p l e R s m args below meth c T' (locs ++ L) (cells + mc) (slots + ms) ∧ (∀ q ∈ L, free q.base) ∧ T'.heap = t.heap ∧ T'.vm = t.vm ∧ Qa st₀ (.returned v) t ∧
      Goes p e below T g T' { g with pc := g.pc + 3, stack := v.toList ++ rest }) ∨
    (∃ (q : Addr) (st₀ t T' : State) (L : List Loc) (E : String) (ce : Cell), st₀.heap = H ∧ Stand p l e R s m args below meth c T' (locs ++ L) (cells + mc) (slots + ms) ∧ (∀ z ∈ L, free z.base) ∧ T'.heap = t.heap ∧ T'.vm = t.vm ∧ XC E st₀ t ∧ t.heap[q]? = some ce ∧ ce.vm = .none ∧ s.vm.findClass E = some ce.cls ∧
      Steps p.tables e below (T.setTop g) ((T'.setTop { g with stack := rest }).pushFrame (.throwing q)))
def vx_X {S : Type} (px : S → Prop) (B : String → S → State → Prop) (A : Nat → Prop) : String → State → State → Prop := fun E st t => ∃ u : S, px u ∧ B E u t ∧ va_F A st t
section Runs
variable {p : Program} {l : Launch} {e : Env} {R : Room} {s : State} {m : MethodId} {args : Array Value} {below : List Frame} {meth : Method} {c : Code} {H : Heap} {locs : List Loc} {cells slots : Nat}
variable {y : MethodName} {bytes cc : ByteArray} {maxL nL mc ms n index : Nat} {ret : Option FieldType} {ws : List Cond} {rm : Room} {Pc : Array Value → State → Prop} {Qc : Array Value → State → Outcome → State → Prop} {XC : String → State → State → Prop} {free : Addr → Prop} {Ts : List Cond} {own C : String} {b : Addr} {As rest : List Value} {g : JFrame}
theorem vx_callBack (cb : CallB R s args own index y bytes maxL ret ws rm mc ms n) (hM : vx_Met l y ws rm Pc Qc XC mc ms free) (hbl : FrameBlind Pc) : vx_Back l R p e below s args y 3 8 (PreOf R mc ms Pc) (PostOf Qc mc ms free) (vx_Post XC mc ms free) := by
  obtain ⟨hrc, hrs, hfr, hlo, hws, hcw, -, hini, -⟩ := cb
  exact vx_back (bytes := bytes) (maxL := maxL) (ret := ret) hM hbl hrc hrs hfr hlo hws hcw (fun a' U hW => word_at hW (Or.inl (by first | rfl | simp [Cond.onTables, Cond.keeps, Cond.steady])) hini)
theorem vx_runV (S : CallFix p m c cc nL s args Ts own) (hM : vx_Met l y ws rm Pc Qc XC mc ms free) (cw : CallW R s args own C index y bytes maxL ret ws rm mc ms n) (hp : PreV s H C b Pc As)
    (hg : g.method = m) (hn : As.length = n) (hsize : g.locals.size = nL) (hstack : g.stack = As.reverse ++ .ref b :: rest) (hW : 2 * g.monitorRoom + (rest.map fun v => v.category).sum ≤ 8) (hdg : decode cc g.pc = .ok (.invokevirtual index, 3)) (hf : cells + mc ≤ R.cells ∧ slots + ms ≤ R.slots) :
    vx_Run p l e R s m args below meth c H locs cells slots mc ms g rest (Qc (Value.ref b :: As).toArray) XC free := by
  have hK : vx_Back l R p e below s args y 3 8 (PreOf R mc ms Pc) (PostOf Qc mc ms free) (vx_Post XC mc ms free) := vx_callBack cw.1 hM hp.1
  obtain ⟨⟨-, -, -, -, -, -, hcode, -, hy, hlen, hl⟩, hin, hse⟩ := cw
  obtain ⟨hx, hb, hml, ho, -⟩ := S
  obtain ⟨-, ⟨cellB, hcB, hoB, hclB⟩, hPc⟩ := hp
  intro T hT X
  rcases vx_callV X hx (C := C) (bytes := bytes) (maxL := maxL) (ret := ret) ho hl hin hse hcode hy hK (by rw [hT]; exact hcB) hoB hclB hg (hsize.trans hml.symm) (argsL := As) (rest := rest) (fun sig h => hn.trans (hlen sig h)) hstack hW (by rw [hb]; exact hdg)
    (fun vm₁ hW₁ => ⟨hf.1, hf.2, hPc (T.setVm vm₁) hT hW₁⟩) with ⟨v, vm₁, ⟨U', l2, c2, s2⟩, hW₁, X', ⟨g', mk, t, L, e1, e2, hq, h1, hL, h2, h3⟩, st⟩ | ⟨q, vm₁, ⟨U', l2, c2, s2⟩, hW₁, X', ⟨g', mk, t, L, E, ce, e1, e2, hq, hce, hcv, hcl, h1, hL, h2, h3⟩, st⟩
  · dsimp only [Pt.U, Pt.locs, Pt.cells, Pt.slots] at X' e1 e2 h1 h2 h3 st
    subst h1; subst h2; subst h3
    exact Or.inl ⟨v, (T.setVm vm₁).calling g' mk (Value.ref b :: As).toArray, t, U', L, hT, X', hL, e1, e2, hq, st⟩
  · dsimp only [Pt.U, Pt.locs, Pt.cells, Pt.slots] at X' e1 e2 h1 h2 h3 st hcl
    subst h1; subst h2; subst h3
    exact Or.inr ⟨q, (T.setVm vm₁).calling g' mk (Value.ref b :: As).toArray, t, U', L, E, ce, hT, X', hL, e1, e2, hq, hce, hcv, vx_cls hW₁ hcl, st⟩
theorem vx_runS (S : CallFix p m c cc nL s args Ts own) (hM : vx_Met l y ws rm Pc Qc XC mc ms free) (cw : CallB R s args own index y bytes maxL ret ws rm mc ms n ∧ (Cond.static y).before args s = true) (hp : PreS s H Pc As)
    (hg : g.method = m) (hn : As.length = n) (hsize : g.locals.size = nL) (hstack : g.stack = As.reverse ++ rest) (hW : 2 * g.monitorRoom + (rest.map fun v => v.category).sum ≤ 8) (hdg : decode cc g.pc = .ok (.invokestatic index, 3)) (hf : cells + mc ≤ R.cells ∧ slots + ms ≤ R.slots) :
    vx_Run p l e R s m args below meth c H locs cells slots mc ms g rest (Qc As.toArray) XC free := by
  have hK : vx_Back l R p e below s args y 3 8 (PreOf R mc ms Pc) (PostOf Qc mc ms free) (vx_Post XC mc ms free) := vx_callBack cw.1 hM hp.1
  obtain ⟨⟨-, -, -, -, -, -, hcode, hini, hy, hlen, hl⟩, hstt⟩ := cw
  obtain ⟨hx, hb, hml, ho, -⟩ := S
  intro T hT X
  rcases vx_callS X hx (bytes := bytes) (maxL := maxL) (ret := ret) ho hl hstt hini hcode hy hK hg (hsize.trans hml.symm) (argsL := As) (rest := rest) (fun sig h => hn.trans (hlen sig h)) hstack hW (by rw [hb]; exact hdg)
    (fun vm₁ hW₁ => ⟨hf.1, hf.2, hp.2 (T.setVm vm₁) hT hW₁⟩) with ⟨v, vm₁, ⟨U', l2, c2, s2⟩, hW₁, X', ⟨g', mk, t, L, e1, e2, hq, h1, hL, h2, h3⟩, st⟩ | ⟨q, vm₁, ⟨U', l2, c2, s2⟩, hW₁, X', ⟨g', mk, t, L, E, ce, e1, e2, hq, hce, hcv, hcl, h1, hL, h2, h3⟩, st⟩
  · dsimp only [Pt.U, Pt.locs, Pt.cells, Pt.slots] at X' e1 e2 h1 h2 h3 st
    subst h1; subst h2; subst h3
    exact Or.inl ⟨v, (T.setVm vm₁).calling g' mk As.toArray, t, U', L, hT, X', hL, e1, e2, hq, st⟩
  · dsimp only [Pt.U, Pt.locs, Pt.cells, Pt.slots] at X' e1 e2 h1 h2 h3 st hcl
    subst h1; subst h2; subst h3
    exact Or.inr ⟨q, (T.setVm vm₁).calling g' mk As.toArray, t, U', L, E, ce, hT, X', hL, e1, e2, hq, hce, hcv, vx_cls hW₁ hcl, st⟩
end Runs
section Rows
variable {p : Program} {l : Launch} {e : Env} {R : Room} {s : State} {m : MethodId} {args : Array Value} {below : List Frame} {meth : Method} {c : Code} {H : Heap} {locs : List Loc} {cells slots : Nat} {Q : State → Prop}
variable {mc ms : Nat} {free : Addr → Prop} {A0 A1 : Nat → Prop} {H0 : Heap} {a : Array Value} {pc : Nat} {ls : Array Slot} {st0 rest : List Value}
theorem vx_keep {st₀ t T' : State} {L : List Loc} (h0 : st₀.heap = H) (e1 : T'.heap = t.heap) (hS : va_S A0 H0 H locs) (hA : ∀ q, q < H.size → A1 q → A0 q) (hf : ∀ q, free q → A0 q) (hL : ∀ q ∈ L, free q.base) (hF : va_F A1 st₀ t) :
    H.size ≤ T'.heap.size ∧ (∀ q : Nat, q < H.size → ¬ A1 q → T'.heap[q]? = H[q]?) ∧ va_S A0 H0 T'.heap (locs ++ L) := by
  obtain ⟨hz, hk⟩ := hF
  rw [h0] at hz hk
  exact ⟨by rw [e1]; exact hz, fun q h1 h2 => by rw [e1]; exact hk q h1 h2,
    ⟨Nat.le_trans hS.1 (by rw [e1]; exact hz), fun q h1 h2 => by rw [e1, hk q (Nat.lt_of_lt_of_le h1 hS.1) (fun z => h2 (hA q (Nat.lt_of_lt_of_le h1 hS.1) z))]; exact hS.2.1 q h1 h2, fun q hq => by
      rcases List.mem_append.mp hq with h | h
      · exact hS.2.2 q h
      · exact hf _ (hL q h)⟩⟩
theorem vx_calli {S SX : Type} {post : Int32 → S → Prop} {px : SX → Prop} {B : S → State → Prop} {BX : String → SX → State → Prop} {AX : Nat → Prop} (hr : vx_Run p l e R s m args below meth c H locs cells slots mc ms (F0 m pc ls st0) rest (va_Qi post B A1 a) (vx_X px BX AX) free) (hS : va_S A0 H0 H locs) (hA : ∀ q, q < H.size → A1 q → A0 q) (hf : ∀ q, free q → A0 q) (hAX : ∀ q, q < H.size → AX q → A0 q)
    (kx : ∀ (E : String) (ce : Cell) (q9 : Addr) (u : SX) (t : State) (H1 : Heap) (locs1 : List Loc), t.heap = H1 → s.vm.Alike t.vm → px u → BX E u t → H.size ≤ H1.size → (∀ q : Nat, q < H.size → ¬ AX q → H1[q]? = H[q]?) → va_S A0 H0 H1 locs1 → H1[q9]? = some ce → ce.vm = .none → s.vm.findClass E = some ce.cls → vx_W p l e R s m args below meth c H1 locs1 (cells + mc) (slots + ms) Q (F0 m pc ls rest) q9)
    (kk : ∀ (r : Int32) (u : S) (t : State) (H1 : Heap) (locs1 : List Loc), t.heap = H1 → s.vm.Alike t.vm → post r u → B u t → H.size ≤ H1.size → (∀ q : Nat, q < H.size → ¬ A1 q → H1[q]? = H[q]?) → va_S A0 H0 H1 locs1 → W p l e R s m args below meth c H1 locs1 (cells + mc) (slots + ms) Q (F0 m (pc + 3) ls (.int r :: rest))) : W p l e R s m args below meth c H locs cells slots Q (F0 m pc ls st0) := by
  intro T hT X
  rcases hr T hT X with ⟨v, st₀, t, T', L, h0, X', hL, e1, e2, ⟨⟨r, u, hv, hp, hb⟩, hF⟩, st⟩ | ⟨q, st₀, t, T', L, E, ce, h0, X', hL, e1, e2, ⟨u, hp, hb, hF⟩, hce, hcv, hcl, st⟩
  · cases hv
    obtain ⟨k1, k2, k3⟩ := vx_keep h0 e1 hS hA hf hL hF
    obtain ⟨t2, a1, b1⟩ := kk r u t T'.heap (locs ++ L) e1.symm (by rw [← e2]; exact X'.warmed.alike) hp hb k1 k2 k3 T' rfl X'
    exact ⟨t2, st t2 a1, b1⟩
  · obtain ⟨k1, k2, k3⟩ := vx_keep h0 e1 hS hAX hf hL hF
    obtain ⟨t2, a1, b1⟩ := kx E ce q u t T'.heap (locs ++ L) e1.symm (by rw [← e2]; exact X'.warmed.alike) hp hb k1 k2 k3 (by rw [e1]; exact hce) hcv hcl T' rfl X'
    exact ⟨t2, st.trans a1, b1⟩
theorem vx_calll {S SX : Type} {post : Int64 → S → Prop} {px : SX → Prop} {B : S → State → Prop} {BX : String → SX → State → Prop} {AX : Nat → Prop} (hr : vx_Run p l e R s m args below meth c H locs cells slots mc ms (F0 m pc ls st0) rest (va_Ql post B A1 a) (vx_X px BX AX) free) (hS : va_S A0 H0 H locs) (hA : ∀ q, q < H.size → A1 q → A0 q) (hf : ∀ q, free q → A0 q) (hAX : ∀ q, q < H.size → AX q → A0 q)
    (kx : ∀ (E : String) (ce : Cell) (q9 : Addr) (u : SX) (t : State) (H1 : Heap) (locs1 : List Loc), t.heap = H1 → s.vm.Alike t.vm → px u → BX E u t → H.size ≤ H1.size → (∀ q : Nat, q < H.size → ¬ AX q → H1[q]? = H[q]?) → va_S A0 H0 H1 locs1 → H1[q9]? = some ce → ce.vm = .none → s.vm.findClass E = some ce.cls → vx_W p l e R s m args below meth c H1 locs1 (cells + mc) (slots + ms) Q (F0 m pc ls rest) q9)
    (kk : ∀ (r : Int64) (u : S) (t : State) (H1 : Heap) (locs1 : List Loc), t.heap = H1 → s.vm.Alike t.vm → post r u → B u t → H.size ≤ H1.size → (∀ q : Nat, q < H.size → ¬ A1 q → H1[q]? = H[q]?) → va_S A0 H0 H1 locs1 → W p l e R s m args below meth c H1 locs1 (cells + mc) (slots + ms) Q (F0 m (pc + 3) ls (.long r :: rest))) : W p l e R s m args below meth c H locs cells slots Q (F0 m pc ls st0) := by
  intro T hT X
  rcases hr T hT X with ⟨v, st₀, t, T', L, h0, X', hL, e1, e2, ⟨⟨r, u, hv, hp, hb⟩, hF⟩, st⟩ | ⟨q, st₀, t, T', L, E, ce, h0, X', hL, e1, e2, ⟨u, hp, hb, hF⟩, hce, hcv, hcl, st⟩
  · cases hv
    obtain ⟨k1, k2, k3⟩ := vx_keep h0 e1 hS hA hf hL hF
    obtain ⟨t2, a1, b1⟩ := kk r u t T'.heap (locs ++ L) e1.symm (by rw [← e2]; exact X'.warmed.alike) hp hb k1 k2 k3 T' rfl X'
    exact ⟨t2, st t2 a1, b1⟩
  · obtain ⟨k1, k2, k3⟩ := vx_keep h0 e1 hS hAX hf hL hF
    obtain ⟨t2, a1, b1⟩ := kx E ce q u t T'.heap (locs ++ L) e1.symm (by rw [← e2]; exact X'.warmed.alike) hp hb k1 k2 k3 (by rw [e1]; exact hce) hcv hcl T' rfl X'
    exact ⟨t2, st.trans a1, b1⟩
theorem vx_callf {S SX : Type} {post : UInt32 → S → Prop} {px : SX → Prop} {B : S → State → Prop} {BX : String → SX → State → Prop} {AX : Nat → Prop} (hr : vx_Run p l e R s m args below meth c H locs cells slots mc ms (F0 m pc ls st0) rest (va_Qf post B A1 a) (vx_X px BX AX) free) (hS : va_S A0 H0 H locs) (hA : ∀ q, q < H.size → A1 q → A0 q) (hf : ∀ q, free q → A0 q) (hAX : ∀ q, q < H.size → AX q → A0 q)
    (kx : ∀ (E : String) (ce : Cell) (q9 : Addr) (u : SX) (t : State) (H1 : Heap) (locs1 : List Loc), t.heap = H1 → s.vm.Alike t.vm → px u → BX E u t → H.size ≤ H1.size → (∀ q : Nat, q < H.size → ¬ AX q → H1[q]? = H[q]?) → va_S A0 H0 H1 locs1 → H1[q9]? = some ce → ce.vm = .none → s.vm.findClass E = some ce.cls → vx_W p l e R s m args below meth c H1 locs1 (cells + mc) (slots + ms) Q (F0 m pc ls rest) q9)
    (kk : ∀ (r : UInt32) (u : S) (t : State) (H1 : Heap) (locs1 : List Loc), t.heap = H1 → s.vm.Alike t.vm → post r u → B u t → H.size ≤ H1.size → (∀ q : Nat, q < H.size → ¬ A1 q → H1[q]? = H[q]?) → va_S A0 H0 H1 locs1 → W p l e R s m args below meth c H1 locs1 (cells + mc) (slots + ms) Q (F0 m (pc + 3) ls (.float r :: rest))) : W p l e R s m args below meth c H locs cells slots Q (F0 m pc ls st0) := by
  intro T hT X
  rcases hr T hT X with ⟨v, st₀, t, T', L, h0, X', hL, e1, e2, ⟨⟨r, u, hv, hp, hb⟩, hF⟩, st⟩ | ⟨q, st₀, t, T', L, E, ce, h0, X', hL, e1, e2, ⟨u, hp, hb, hF⟩, hce, hcv, hcl, st⟩
  · cases hv
    obtain ⟨k1, k2, k3⟩ := vx_keep h0 e1 hS hA hf hL hF
    obtain ⟨t2, a1, b1⟩ := kk r u t T'.heap (locs ++ L) e1.symm (by rw [← e2]; exact X'.warmed.alike) hp hb k1 k2 k3 T' rfl X'
    exact ⟨t2, st t2 a1, b1⟩
  · obtain ⟨k1, k2, k3⟩ := vx_keep h0 e1 hS hAX hf hL hF
    obtain ⟨t2, a1, b1⟩ := kx E ce q u t T'.heap (locs ++ L) e1.symm (by rw [← e2]; exact X'.warmed.alike) hp hb k1 k2 k3 (by rw [e1]; exact hce) hcv hcl T' rfl X'
    exact ⟨t2, st.trans a1, b1⟩
theorem vx_calld {S SX : Type} {post : UInt64 → S → Prop} {px : SX → Prop} {B : S → State → Prop} {BX : String → SX → State → Prop} {AX : Nat → Prop} (hr : vx_Run p l e R s m args below meth c H locs cells slots mc ms (F0 m pc ls st0) rest (va_Qd post B A1 a) (vx_X px BX AX) free) (hS : va_S A0 H0 H locs) (hA : ∀ q, q < H.size → A1 q → A0 q) (hf : ∀ q, free q → A0 q) (hAX : ∀ q, q < H.size → AX q → A0 q)
    (kx : ∀ (E : String) (ce : Cell) (q9 : Addr) (u : SX) (t : State) (H1 : Heap) (locs1 : List Loc), t.heap = H1 → s.vm.Alike t.vm → px u → BX E u t → H.size ≤ H1.size → (∀ q : Nat, q < H.size → ¬ AX q → H1[q]? = H[q]?) → va_S A0 H0 H1 locs1 → H1[q9]? = some ce → ce.vm = .none → s.vm.findClass E = some ce.cls → vx_W p l e R s m args below meth c H1 locs1 (cells + mc) (slots + ms) Q (F0 m pc ls rest) q9)
    (kk : ∀ (r : UInt64) (u : S) (t : State) (H1 : Heap) (locs1 : List Loc), t.heap = H1 → s.vm.Alike t.vm → post r u → B u t → H.size ≤ H1.size → (∀ q : Nat, q < H.size → ¬ A1 q → H1[q]? = H[q]?) → va_S A0 H0 H1 locs1 → W p l e R s m args below meth c H1 locs1 (cells + mc) (slots + ms) Q (F0 m (pc + 3) ls (.double r :: rest))) : W p l e R s m args below meth c H locs cells slots Q (F0 m pc ls st0) := by
  intro T hT X
  rcases hr T hT X with ⟨v, st₀, t, T', L, h0, X', hL, e1, e2, ⟨⟨r, u, hv, hp, hb⟩, hF⟩, st⟩ | ⟨q, st₀, t, T', L, E, ce, h0, X', hL, e1, e2, ⟨u, hp, hb, hF⟩, hce, hcv, hcl, st⟩
  · cases hv
    obtain ⟨k1, k2, k3⟩ := vx_keep h0 e1 hS hA hf hL hF
    obtain ⟨t2, a1, b1⟩ := kk r u t T'.heap (locs ++ L) e1.symm (by rw [← e2]; exact X'.warmed.alike) hp hb k1 k2 k3 T' rfl X'
    exact ⟨t2, st t2 a1, b1⟩
  · obtain ⟨k1, k2, k3⟩ := vx_keep h0 e1 hS hAX hf hL hF
    obtain ⟨t2, a1, b1⟩ := kx E ce q u t T'.heap (locs ++ L) e1.symm (by rw [← e2]; exact X'.warmed.alike) hp hb k1 k2 k3 (by rw [e1]; exact hce) hcv hcl T' rfl X'
    exact ⟨t2, st.trans a1, b1⟩
theorem vx_callv {S SX : Type} {post : S → Prop} {px : SX → Prop} {B : S → State → Prop} {BX : String → SX → State → Prop} {AX : Nat → Prop} (hr : vx_Run p l e R s m args below meth c H locs cells slots mc ms (F0 m pc ls st0) rest (va_Qv post B A1 a) (vx_X px BX AX) free) (hS : va_S A0 H0 H locs) (hA : ∀ q, q < H.size → A1 q → A0 q) (hf : ∀ q, free q → A0 q) (hAX : ∀ q, q < H.size → AX q → A0 q)
    (kx : ∀ (E : String) (ce : Cell) (q9 : Addr) (u : SX) (t : State) (H1 : Heap) (locs1 : List Loc), t.heap = H1 → s.vm.Alike t.vm → px u → BX E u t → H.size ≤ H1.size → (∀ q : Nat, q < H.size → ¬ AX q → H1[q]? = H[q]?) → va_S A0 H0 H1 locs1 → H1[q9]? = some ce → ce.vm = .none → s.vm.findClass E = some ce.cls → vx_W p l e R s m args below meth c H1 locs1 (cells + mc) (slots + ms) Q (F0 m pc ls rest) q9)
    (kk : ∀ (u : S) (t : State) (H1 : Heap) (locs1 : List Loc), t.heap = H1 → s.vm.Alike t.vm → post u → B u t → H.size ≤ H1.size → (∀ q : Nat, q < H.size → ¬ A1 q → H1[q]? = H[q]?) → va_S A0 H0 H1 locs1 → W p l e R s m args below meth c H1 locs1 (cells + mc) (slots + ms) Q (F0 m (pc + 3) ls (rest))) : W p l e R s m args below meth c H locs cells slots Q (F0 m pc ls st0) := by
  intro T hT X
  rcases hr T hT X with ⟨v, st₀, t, T', L, h0, X', hL, e1, e2, ⟨⟨u, hv, hp, hb⟩, hF⟩, st⟩ | ⟨q, st₀, t, T', L, E, ce, h0, X', hL, e1, e2, ⟨u, hp, hb, hF⟩, hce, hcv, hcl, st⟩
  · cases hv
    obtain ⟨k1, k2, k3⟩ := vx_keep h0 e1 hS hA hf hL hF
    obtain ⟨t2, a1, b1⟩ := kk u t T'.heap (locs ++ L) e1.symm (by rw [← e2]; exact X'.warmed.alike) hp hb k1 k2 k3 T' rfl X'
    exact ⟨t2, st t2 a1, b1⟩
  · obtain ⟨k1, k2, k3⟩ := vx_keep h0 e1 hS hAX hf hL hF
    obtain ⟨t2, a1, b1⟩ := kx E ce q u t T'.heap (locs ++ L) e1.symm (by rw [← e2]; exact X'.warmed.alike) hp hb k1 k2 k3 (by rw [e1]; exact hce) hcv hcl T' rfl X'
    exact ⟨t2, st.trans a1, b1⟩
/-- caught by the row x of this method's table; the rows ahead don't take it -/
theorem vx_catch {own name : String} {E : String} {ce : Cell} {q : Addr} (hown : s.vm.findClass own = some m.cls) (pre : List ExceptionTableEntry) (x : ExceptionTableEntry) (suf : List ExceptionTableEntry) (hsplit : c.exceptionTable.toList = pre ++ x :: suf)
    (hpass : ∀ z ∈ pre, covers z pc = false ∨ (z.catchType ≠ 0 ∧ ∃ nm : String, (Cond.classLink own z.catchType nm).before args s = true ∧ va_Nc E nm s)) (hx : covers x pc = true) (h0 : x.catchType ≠ 0)
    (hlink : (Cond.classLink own x.catchType name).before args s = true) (hcast : (Cond.castable E name).before args s = true) (hcell : H[q]? = some ce) (hv : ce.vm = .none) (hcl : s.vm.findClass E = some ce.cls)
    (kk : W p l e R s m args below meth c H locs cells slots Q (F0 m x.handlerPc ls [.ref q])) : vx_W p l e R s m args below meth c H locs cells slots Q (F0 m pc ls rest) q := by
  intro T hT X
  have hpl : e.platform.magicAccessors = ({} : Platform).magicAccessors := by rw [X.admits.platform]
  obtain ⟨c3, c4, hc3, hc4, hasg⟩ := Cond.castable_spec hcast
  cases Option.some.inj (hc3.symm.trans hcl)
  obtain ⟨c5, hc5, hcl5⟩ := Cond.classLink_spec hown hlink e.platform hpl
  cases Option.some.inj (hc4.symm.trans hc5)
  obtain ⟨vm', X', st⟩ := xc_caught X q (g := F0 m pc ls rest) rfl (by rw [hT]; exact hcell) (by rw [hv]; rfl) (by obtain ⟨k9, h9, -⟩ := Vm.findClass_spec hcl; exact ⟨k9, h9⟩) pre x suf hsplit
    (fun z hz => by
      rcases hpass z hz with h | ⟨hz0, nm, hl1, hn1⟩
      · exact Or.inl h
      · obtain ⟨c6, hc6, hcl6⟩ := Cond.classLink_spec hown hl1 e.platform hpl
        obtain ⟨a8, b8, h1, h2, h3⟩ := hn1
        cases Option.some.inj (h1.symm.trans hcl)
        cases Option.some.inj (h2.symm.trans hc6)
        exact Or.inr ⟨hz0, _, hcl6, h3⟩) hx h0 hcl5 hasg
  obtain ⟨t, a1, b1⟩ := kk (T.setVm vm') hT X'
  exact ⟨t, st.trans a1, b1⟩
end Rows
section Ends
variable {p : Program} {l : Launch} {e : Env} {R : Room} {s : State} {m : MethodId} {args : Array Value} {below : List Frame} {meth : Method} {c : Code} {H : Heap} {locs : List Loc} {cells slots : Nat} {Q : State → Prop}
variable {mc ms : Nat} {free : Addr → Prop} {A0 A1 : Nat → Prop} {H0 : Heap} {a : Array Value} {ls : Array Slot} {st0 rest : List Value}
variable {Qc : Array Value → State → Outcome → State → Prop} {XC : String → State → State → Prop}
/-- what a body that may throw owes at its end -/
def vx_MQ (below : List Frame) (Qc : Array Value → State → Outcome → State → Prop) (XC : String → State → State → Prop) (a : Array Value) (s : State) (mc ms : Nat) (free : Addr → Prop) : State → Prop := fun t =>
  ∃ o, t.status = .running ∧ Ended t below o ∧ vx_Q Qc XC mc ms free a s o t
theorem vx_ret {g : JFrame} {mc ms : Nat} (k : W p l e R s m args below meth c H locs cells slots (MQ below Qc args s mc ms free) g) : W p l e R s m args below meth c H locs cells slots (vx_MQ below Qc XC args s mc ms free) g := by
  intro T hT X
  obtain ⟨t, a1, o, b1, b2, b3, b4⟩ := k T hT X
  exact ⟨t, a1, o, b1, b2, Or.inl ⟨b3, b4⟩⟩
/-- not caught here: it goes on to the caller -/
theorem vx_widen {g : JFrame} {q : Addr} {k n : Nat} (h1 : cells ≤ k) (h2 : slots ≤ n) (kk : vx_W p l e R s m args below meth c H locs k n Q g q) : vx_W p l e R s m args below meth c H locs cells slots Q g q := fun T hT X => kk T hT (stand_widen X h1 h2)
theorem vx_out {pc : Nat} {E : String} {ce : Cell} {q : Addr} {mc ms : Nat} (hout : ∀ x ∈ c.exceptionTable.toList, covers x pc = false) (hlocks : meth.locks = false) (hcell : H[q]? = some ce) (hv : ce.vm = .none) (hcl : s.vm.findClass E = some ce.cls)
    (hx : ∀ t : State, t.heap = H → s.vm.Alike t.vm → XC E s t) (hf : ∀ z ∈ locs, free z.base) (hc : cells ≤ mc) (hs : slots ≤ ms) :
    vx_W p l e R s m args below meth c H locs cells slots (vx_MQ below Qc XC args s mc ms free) (F0 m pc ls rest) q := by
  intro T hT X
  obtain ⟨st1, hrun, hend, hW, hsm⟩ := X.leaveThrown q (g := F0 m pc ls rest) rfl rfl rfl hout hlocks
  have hcell9 : (T.setFrames (.throwing q :: below)).heap[q]? = some ce := by
    show T.heap[q]? = some ce
    rw [hT]; exact hcell
  exact ⟨_, st1, .threw q, hrun, hend, Or.inr ⟨q, rfl, E, ce, locs, hx _ hT hW.alike, hcell9, hv, hcl, hW, hsm.mono hc hs, hf⟩⟩
theorem vx_frame {U : State} {k n : Nat} (h : s.sameButNew ({ U with vm := s.vm } : State) locs k n) : s.heap.size ≤ U.heap.size ∧ ∀ q : Nat, q < s.heap.size → (∀ z ∈ locs, z.base ≠ q) → U.heap[q]? = s.heap[q]? := by
  obtain ⟨-, h2, -, -, -, h6⟩ := h
  refine ⟨h2, fun q hq hz => ?_⟩
  obtain ⟨c9, e1, e2, e3, e4⟩ := h6 q _ (Array.getElem?_eq_getElem hq)
  have hs : c9.slots = (s.heap[q]).slots := Array.ext_getElem? fun i => e4 i fun hm => hz _ hm rfl
  have h9 : c9 = s.heap[q] := by
    rw [hs] at e2
    exact e2
  have e5 : U.heap[q]? = some c9 := e1
  rw [e5, h9, Array.getElem?_eq_getElem hq]
/-- the words of a throw but the four that speak of the heap -/
def vx_no (w : Cond) : Bool := decide (w ≠ .isRef (.static Bundle.tN "UNASSIGNED_STACK" Bundle.steD)) && decide (w ≠ .isRef (.static Bundle.tN "SUPPRESSED_SENTINEL" Bundle.listD)) && decide (w ≠ .laysStatic Bundle.tN "UNASSIGNED_STACK" Bundle.steD) && decide (w ≠ .laysStatic Bundle.tN "SUPPRESSED_SENTINEL" Bundle.listD)
def vx_at0 (own : String) (ic : Nat) (X : String) (names : List String) : List Cond := (Bundle.ownAtoms0 own ic X names).filter vx_no
def vx_atS (own : String) (ic : Nat) (X : String) (names : List String) : List Cond := (Bundle.ownAtoms own ic X names).filter vx_no
/-- a word that the tables alone decide, or a good one -/
def vx_ot (w : Cond) : Bool := w.onTables || goodWord w
theorem vx_ot_at {args a' : Array Value} {s U : State} {w : Cond} (hW : s.WarmedH U.vm) (hvm : s.vm = U.vm) (hg : vx_ot w = true) (h : w.before args s = true) : w.before a' U = true := by
  simp only [vx_ot, Bool.or_eq_true] at hg
  rcases hg with hg | hg
  · exact va_tabs hg hvm h
  · exact word_at hW (good_of_word hg) h
/-- a list's words: the good ones out of the method's own list, the others by premises of their own -/
theorem vx_hat {args : Array Value} {s : State} {L B : List Cond} (h1 : ∀ w ∈ L.filter goodWord, w.before args s = true) (h2 : ∀ w ∈ L.filter (fun w => !goodWord w), w ∈ B) (h3 : ∀ w ∈ B, w.before args s = true) : ∀ w ∈ L, w.before args s = true := by
  intro w hw
  by_cases g : goodWord w = true
  · exact h1 w (List.mem_filter.mpr ⟨hw, g⟩)
  · refine h3 w (h2 w (List.mem_filter.mpr ⟨hw, ?_⟩))
    show (!goodWord w) = true
    cases hgw : goodWord w
    · rfl
    · exact absurd hgw g
theorem vx_c {args : Array Value} {s : State} {w : Cond} {B : List Cond} (h : w.before args s = true) (t : ∀ w ∈ B, w.before args s = true) : ∀ w' ∈ w :: B, w'.before args s = true := fun w' h' => (List.mem_cons.mp h').elim (fun e => by rw [e]; exact h) (t w')
theorem vx_n {args : Array Value} {s : State} : ∀ w ∈ ([] : List Cond), w.before args s = true := fun _ h => nomatch h
theorem vx_own {args : Array Value} {s : State} {L : List Cond} (h1 : ∀ w ∈ L.filter vx_no, w.before args s = true)
    (hU : (Cond.isRef (.static Bundle.tN "UNASSIGNED_STACK" Bundle.steD)).before args s = true) (hN : (Cond.isRef (.static Bundle.tN "SUPPRESSED_SENTINEL" Bundle.listD)).before args s = true)
    (lU : (Cond.laysStatic Bundle.tN "UNASSIGNED_STACK" Bundle.steD).before args s = true) (lN : (Cond.laysStatic Bundle.tN "SUPPRESSED_SENTINEL" Bundle.listD).before args s = true) : ∀ w ∈ L, w.before args s = true := by
  intro w hw
  by_cases e1 : w = .isRef (.static Bundle.tN "UNASSIGNED_STACK" Bundle.steD)
  · rw [e1]; exact hU
  · by_cases e2 : w = .isRef (.static Bundle.tN "SUPPRESSED_SENTINEL" Bundle.listD)
    · rw [e2]; exact hN
    · by_cases e3 : w = .laysStatic Bundle.tN "UNASSIGNED_STACK" Bundle.steD
      · rw [e3]; exact lU
      · by_cases e4 : w = .laysStatic Bundle.tN "SUPPRESSED_SENTINEL" Bundle.listD
        · rw [e4]; exact lN
        · exact h1 w (List.mem_filter.mpr ⟨hw, by unfold vx_no; rw [decide_eq_true e1, decide_eq_true e2, decide_eq_true e3, decide_eq_true e4]; rfl⟩)
/-- where a static field lies, its class's statics cell in H -/
def vx_L (C n d : String) (A : Nat → Prop) (U : State) (H : Heap) : Prop := ∃ (c : ClassId) (k : Class) (i : Nat) (f : Field) (a : Nat) (cell : Cell), U.vm.findClass C = some c ∧ U.fieldFound? C n d = some (c, k, i, f) ∧ f.isStatic = true ∧ k.statics = some a ∧ H[a]? = some cell ∧ cell.vm.isStatics = true ∧ cell.cls = c ∧ f.slot < cell.slots.size ∧ k.staticTypes[f.slot]? = some f.type ∧ ¬ A a
theorem vx_L.moved {C n d : String} {A : Nat → Prop} {u U : State} {H : Heap} (hvm : u.vm.Alike U.vm) (h : vx_L C n d A u H) : vx_L C n d A U H := by
  obtain ⟨c, k, i, f, a, cell, h1, h2, h3, h4, h5, h6, h7, h8, h9, h10⟩ := h
  obtain ⟨k', hi', he⟩ := State.fieldFound?_setVm hvm h2
  exact ⟨c, k', i, f, a, cell, by rw [hvm.findClass]; exact h1, hi', h3, by rw [he]; exact h4, h5, h6, h7, h8, by rw [he]; exact h9, h10⟩
theorem vx_L.kept {C n d : String} {A : Nat → Prop} {U : State} {H H1 : Heap} (h : vx_L C n d A U H) (hq : ∀ a : Nat, a < H.size → ¬ A a → H1[a]? = H[a]?) : vx_L C n d A U H1 := by
  obtain ⟨c, k, i, f, a, cell, h1, h2, h3, h4, h5, h6, h7, h8, h9, h10⟩ := h
  exact ⟨c, k, i, f, a, cell, h1, h2, h3, h4, by rw [hq a (Array.getElem?_eq_some_iff.mp h5).1 h10]; exact h5, h6, h7, h8, h9, h10⟩
theorem vx_L.narrow {C n d : String} {A B : Nat → Prop} {U : State} {H : Heap} (h : vx_L C n d A U H) (hAB : ∀ q, B q → A q) : vx_L C n d B U H := by
  obtain ⟨c, k, i, f, a, cell, h1, h2, h3, h4, h5, h6, h7, h8, h9, h10⟩ := h
  exact ⟨c, k, i, f, a, cell, h1, h2, h3, h4, h5, h6, h7, h8, h9, fun z => h10 (hAB _ z)⟩
theorem vx_L.word {C n d : String} {A : Nat → Prop} {s : State} {args : Array Value} (h : vx_L C n d A s s.heap) : (Cond.laysStatic C n d).before args s = true := by
  obtain ⟨c, k, i, f, a, cell, h1, h2, h3, h4, h5, h6, h7, h8, h9, -⟩ := h
  show (Cond.laysStatic C n d).holds args s none s [] = true
  exact Cond.laysStatic_of h1 h2 h3 h4 h5 h6 h7 h8 h9
/-- .. and what it holds: null or some reference -/
def vx_Zq (C n d : String) (A : Nat → Prop) (U : State) (H : Heap) : Prop := va_Zq C n d A U H ∧ vx_L C n d A U H
theorem vx_Zq.moved {C n d : String} {A : Nat → Prop} {u U : State} {H : Heap} (hvm : u.vm.Alike U.vm) (h : vx_Zq C n d A u H) : vx_Zq C n d A U H := ⟨va_Zq.moved hvm h.1, vx_L.moved hvm h.2⟩
theorem vx_Zq.kept {C n d : String} {A : Nat → Prop} {U : State} {H H1 : Heap} (h : vx_Zq C n d A U H) (hq : ∀ a : Nat, a < H.size → ¬ A a → H1[a]? = H[a]?) : vx_Zq C n d A U H1 := ⟨va_Zq.kept h.1 hq, vx_L.kept h.2 hq⟩
theorem vx_Zq.narrow {C n d : String} {A B : Nat → Prop} {U : State} {H : Heap} (h : vx_Zq C n d A U H) (hAB : ∀ q, B q → A q) : vx_Zq C n d B U H := ⟨va_Zq.narrow h.1 hAB, vx_L.narrow h.2 hAB⟩
theorem vx_Zqof {args : Array Value} {s : State} {C n d : String} {A : Nat → Prop} (hl : (Cond.laysStatic C n d).before args s = true) (hini : (Cond.initialized C).before args s = true) (h : (Cond.isRef (.static C n d)).before args s = true) (hA : ∀ a : Nat, a < s.heap.size → ¬ A a) : vx_Zq C n d A s s.heap := by
  refine ⟨va_Zqof hl hini h hA, ?_⟩
  obtain ⟨c, k, i, f, a, cell, h1, h2, h3, h4, h5, h6, h7, h8, h9⟩ := Cond.laysStatic_spec hl
  exact ⟨c, k, i, f, a, cell, h1, h2, h3, h4, h5, h6, h7, h8, h9, hA a (Array.getElem?_eq_some_iff.mp h5).1⟩
theorem vx_isRef {C n d : String} {v : Value} {A : Nat → Prop} {s : State} {args : Array Value} (h : va_Z C n d v A s s.heap) (hv : v.isRef = true) : (Cond.isRef (.static C n d)).before args s = true := by
  obtain ⟨cf, kf, fi, f, a, cell, h1, h2, h3, h4, h5, h6, h7, -⟩ := h
  have he : (Term.static C n d).eval args s none [] s = some v := by
    simp [Term.eval, State.fieldNamed?, h1, h2, h4, h5, h6, h7]
  simp only [Cond.before, Cond.holds, Cond.value, he]
  cases v <;> simp_all [Value.isRef]
theorem vx_isRefq {C n d : String} {A : Nat → Prop} {s : State} {args : Array Value} (h : va_Zq C n d A s s.heap) : (Cond.isRef (.static C n d)).before args s = true := by
  rcases h with h | ⟨t, h⟩
  · exact vx_isRef h rfl
  · exact vx_isRef h rfl
/-- the same frame, seen from here: as if the method were called anew in this heap -/
theorem vx_rebase {T : State} (X : Stand p l e R s m args below meth c T locs cells slots) {R' : Room} (hf : R'.frames ≤ R.frames) (hl : R'.locals ≤ R.locals) (hc : cells + R'.cells ≤ R.cells) (hs : slots + R'.slots ≤ R.slots) :
    Stand p l e R' ((T.setVm s.vm).setFrames (.invoking m args :: below)) m args below meth c T [] 0 0 := by
  have htop : (T.setVm s.vm).topJava?.isSome := X.here.top
  have hF : ((T.setVm s.vm).setFrames (.invoking m args :: below)).frames = .invoking m args :: below := State.frames_setFrames _ (State.cur_lt_of_top htop)
  obtain ⟨g₀, hg0⟩ := Option.isSome_iff_exists.mp htop
  obtain ⟨r, hr⟩ := State.topJava?_eq_some.mp hg0
  have hl9 : e.platform.stackLimits (T.setVm s.vm).me = e.platform.stackLimits s.me := X.limits
  have hb9 : (T.setVm s.vm).me.stackBytes = s.me.stackBytes := X.bytes
  refine ⟨X.admits, X.cas, X.clock, hF, ?_, X.hears, X.method, X.code, X.here, X.tail, X.warmed, ?_, ?_, ?_⟩
  · have h := X.room
    have hU : ((T.setVm s.vm).setFrames (.invoking m args :: below)).localsInUse = s.localsInUse := by
      rw [State.localsInUse_invoking hF (meth := meth) (c := c) X.method X.code, State.localsInUse_invoking X.frames X.method X.code]
    simp only [State.hasRoom, Bool.and_eq_true, decide_eq_true_eq] at h ⊢
    obtain ⟨⟨⟨⟨h1, h2, h3, h4, h5, h6⟩, h7⟩, h8⟩, h9⟩ := h
    rw [X.frames, List.length_cons] at h2 h3
    have q1 := X.heapSize
    have q2 := X.used
    simp only [hF, hU, List.length_cons, State.stackLimits_setFrames, State.stackBytes_setFrames, hl9, hb9]
    refine ⟨⟨⟨⟨by omega, by omega, by omega, by omega, by omega, h6⟩, ?_⟩, ?_⟩, X.book⟩
    · show T.heap.size + R'.cells ≤ e.platform.maxCells
      omega
    · show T.slotsUsed + R'.slots ≤ e.platform.maxSlots
      omega
  · rw [State.stackLimits_setFrames]; rfl
  · rw [State.stackBytes_setFrames]; rfl
  · refine ⟨?_, Nat.le_refl _, Nat.le_refl _, ?_, ?_, fun a c9 h9 => ⟨c9, h9, rfl, rfl, fun _ _ => rfl⟩⟩
    · obtain ⟨t, ht, -⟩ := State.frames_cons hr
      show T.setVm s.vm = { ((T.setVm s.vm).setFrames (.invoking m args :: below)).setFrames (T.setVm s.vm).frames with heap := T.heap, slotsUsed := T.slotsUsed }
      rw [State.setFrames_setFrames, State.setFrames_self ht]
      rfl
    · show T.slotsUsed = T.slotsUsed + ((T.heap.toList.drop T.heap.size).map (·.slots.size)).sum
      rw [List.drop_eq_nil_of_le (Nat.le_of_eq Array.length_toList)]
      rfl
    · show ((T.heap.toList.drop T.heap.size).map (·.slots.size)).sum ≤ 0
      rw [List.drop_eq_nil_of_le (Nat.le_of_eq Array.length_toList)]
      exact Nat.le_refl _
/-- 'throw new E()': new; dup; invokespecial; athrow -/
theorem vx_throw0 {cc : ByteArray} {pc : Nat} (hexec : p.tables.exec = Jvm.exec) (hb : c.code = cc) (hl : l.stackTraces = false) {own cls : String} {names : List String} {ik ic mc ms : Nat} {A : Nat → Prop}
    (hown : s.vm.findClass own = some m.cls) (hcls : Bundle.fit cls = true) (hnames : ∀ n ∈ names, Bundle.fit n = true)
    (hk : (Cond.classLink own ik cls).before args s = true) (hini : (Cond.initialized cls).before args s = true) (hat : ∀ w ∈ vx_at0 own ic cls names, w.before args s = true)
    (hgood : ∀ w ∈ Cond.classLink own ik cls :: Cond.initialized cls :: vx_at0 own ic cls names, vx_ot w = true)
    (hU : vx_Zq Bundle.tN "UNASSIGNED_STACK" Bundle.steD A s s.heap) (hN : vx_Zq Bundle.tN "SUPPRESSED_SENTINEL" Bundle.listD A s s.heap) (hS : va_S A s.heap H locs) (hsize : ls.size = c.maxLocals)
    (d0 : decode cc pc = .ok (.new ik, 3)) (d3 : decode cc (pc + 3) = .ok (.dup, 1)) (d4 : decode cc (pc + 4) = .ok (.invokespecial ic, 3)) (d7 : decode cc (pc + 7) = .ok (.athrow, 1))
    (hout : ∀ x ∈ c.exceptionTable.toList, covers x (pc + 7) = false)
    (hRframes : names.length + 3 < R.frames) (hRlocals : (rest.map fun v => v.category).sum + (13 * (names.length + 1) + 42) ≤ R.locals) (hRcells : cells + 1 ≤ R.cells) (hRslots : slots + 6 ≤ R.slots) (hlocks : meth.locks = false)
    (hx : ∀ t : State, s.vm.Alike t.vm → H.size ≤ t.heap.size → (∀ q : Nat, q < H.size → t.heap[q]? = H[q]?) → XC cls s t)
    (hf : ∀ z ∈ locs, free z.base) (hc : cells + 1 ≤ mc) (hs : slots + 6 ≤ ms) :
    W p l e R s m args below meth c H locs cells slots (vx_MQ below Qc XC args s mc ms free) (F0 m pc ls rest) := by
  intro T hT X
  have htr : e.platform.stackTraces = false := (show e.platform.stackTraces = l.stackTraces by rw [X.admits.platform]).trans hl
  have Y := vx_rebase X (R' := { frames := R.frames, locals := R.locals, cells := 1, slots := 6 }) (Nat.le_refl _) (Nat.le_refl _) hRcells hRslots
  obtain ⟨s', hA⟩ : ∃ z, z = (T.setVm s.vm).setFrames (.invoking m args :: below) := ⟨_, rfl⟩
  rw [← hA] at Y
  have hvm : s'.vm = s.vm := by rw [hA]; rfl
  have hhp : s'.heap = H := by rw [hA]; exact hT
  have hW0 : s.WarmedH s'.vm := by rw [hvm]; exact State.WarmedH.refl s
  have hat' : ∀ w ∈ vx_at0 own ic cls names, w.before args s' = true := fun w hw => vx_ot_at hW0 hvm.symm (hgood w (List.mem_cons_of_mem _ (List.mem_cons_of_mem _ hw))) (hat w hw)
  have hk' : (Cond.classLink own ik cls).before args s' = true := vx_ot_at hW0 hvm.symm (hgood _ List.mem_cons_self) hk
  have hini' : (Cond.initialized cls).before args s' = true := vx_ot_at hW0 hvm.symm (hgood _ (List.mem_cons_of_mem _ List.mem_cons_self)) hini
  have hU' : vx_Zq Bundle.tN "UNASSIGNED_STACK" Bundle.steD A s' s'.heap := by rw [hhp]; exact vx_Zq.moved hW0.alike (hU.kept hS.2.1)
  have hN' : vx_Zq Bundle.tN "SUPPRESSED_SENTINEL" Bundle.listD A s' s'.heap := by rw [hhp]; exact vx_Zq.moved hW0.alike (hN.kept hS.2.1)
  have h : ∀ w ∈ Bundle.ownAtoms0 own ic cls names, w.before args s' = true := vx_own hat' (vx_isRefq hU'.1) (vx_isRefq hN'.1) hU'.2.word hN'.2.word
  have hown' : s'.vm.findClass own = some m.cls := by rw [hvm]; exact hown
  have hins : (Cond.instantiable cls 6).before args s' = true := h _ (by simp [Bundle.ownAtoms0])
  obtain ⟨vm₁, cX, kX, hfX, hkX, -, -, X₁, st1⟩ := Y.newCold hexec (own := own) (C := cls) (index := ik) (n := 6) hown' hk' hins hini'
    (g := F0 m pc ls rest) rfl (by rw [hb]; exact d0) (Nat.le_refl _) (Nat.le_refl _)
  generalize hT1 : (T.setVm vm₁).pushCell { cls := cX, slots := kX.instanceTypes.map defaultValue, vm := .none } = T1 at X₁ st1
  have hcat : (Value.ref T.heap.size).category = 1 := rfl
  have hcellA : T1.heap[T.heap.size]? = some (freshCell cX kX) := by rw [← hT1]; exact State.heap_pushCell_size _ _
  have d3' : decode c.code (pc + 3) = .ok (.dup, 1) := by rw [hb]; exact d3
  obtain ⟨U, hsteps, hrun, hend, hW, hsame, ce, hce, hO⟩ := X₁.ctorThrow0 hexec htr (own := own) (cls := cls) (names := names) (ic := ic) hown' hcls hnames h (fun x hx => nomatch hx) hfX hkX hcellA (by rw [hhp, hT]; exact Nat.le_refl _)
    (g := { method := m, pc := pc + 4, locals := ls, stack := .ref T.heap.size :: .ref T.heap.size :: rest, locked := none }) rfl hsize rfl rfl (rest := rest) rfl
    (by rw [hb]; exact d4) (by rw [hb]; exact d7) hout hRframes (by simp only [List.map_cons, List.sum_cons, hcat]; omega) hlocks
  obtain ⟨f1, f2⟩ := vx_frame hsame
  rw [hhp] at f1 f2
  have hWs : s.WarmedH U.vm := State.WarmedH.trans hW0 hW
  have hcl : s.vm.findClass cls = some ce.cls := by
    have h9 := hO.cls
    rw [hvm] at h9
    exact h9
  have hall : s.sameButNew ({ U with vm := s.vm } : State) locs mc ms := by
    subst hA
    obtain ⟨e1, e2⟩ := hsame
    rw [State.setFrames_setFrames] at e1
    have h2 : (T.setVm s.vm).sameButNew ({ U with vm := s.vm } : State) [] (0 + 1) (0 + 6) := ⟨e1, e2⟩
    have h3 := X.same.trans h2
    rw [List.append_nil] at h3
    exact h3.mono hc hs
  refine ⟨U, ?_, .threw T.heap.size, hrun, hend, Or.inr ⟨T.heap.size, rfl, cls, ce, locs, hx U hWs.alike f1 (fun q hq => f2 q hq (fun z hz => nomatch hz)), hce, hO.vm, hcl, hWs, hall, hf⟩⟩
  refine st1 _ ?_
  show Steps p.tables e below (T1.setTop { method := m, pc := pc + 3, locals := ls, stack := .ref T.heap.size :: rest, locked := none }) _
  jvm_step X₁.here [X₁.here.top, hexec, d3', Value.category]
  exact hsteps
/-- 'throw new E("text")': new; dup; ldc; invokespecial; athrow -/
theorem vx_throwS {cc : ByteArray} {pc : Nat} (hexec : p.tables.exec = Jvm.exec) (hb : c.code = cc) (hl : l.stackTraces = false) {own cls text : String} {names : List String} {ik is ic mc ms sa : Nat} {A : Nat → Prop}
    (hown : s.vm.findClass own = some m.cls) (hcls : Bundle.fit cls = true) (hnames : ∀ n ∈ names, Bundle.fit n = true)
    (hk : (Cond.classLink own ik cls).before args s = true) (hini : (Cond.initialized cls).before args s = true) (hstr : vk_R own is text sa s) (hat : ∀ w ∈ vx_atS own ic cls names, w.before args s = true)
    (hgood : ∀ w ∈ Cond.classLink own ik cls :: Cond.initialized cls :: vx_atS own ic cls names, vx_ot w = true)
    (hU : vx_Zq Bundle.tN "UNASSIGNED_STACK" Bundle.steD A s s.heap) (hN : vx_Zq Bundle.tN "SUPPRESSED_SENTINEL" Bundle.listD A s s.heap) (hS : va_S A s.heap H locs) (hsize : ls.size = c.maxLocals)
    (d0 : decode cc pc = .ok (.new ik, 3)) (d3 : decode cc (pc + 3) = .ok (.dup, 1)) (d4 : decode cc (pc + 4) = .ok (.ldc is, 2)) (d6 : decode cc (pc + 6) = .ok (.invokespecial ic, 3)) (d9 : decode cc (pc + 9) = .ok (.athrow, 1))
    (hout : ∀ x ∈ c.exceptionTable.toList, covers x (pc + 9) = false)
    (hRframes : names.length + 3 < R.frames) (hRlocals : (rest.map fun v => v.category).sum + (13 * (names.length + 1) + 43) ≤ R.locals) (hRcells : cells + 1 ≤ R.cells) (hRslots : slots + 6 ≤ R.slots) (hlocks : meth.locks = false)
    (hx : ∀ t : State, s.vm.Alike t.vm → H.size ≤ t.heap.size → (∀ q : Nat, q < H.size → t.heap[q]? = H[q]?) → XC cls s t)
    (hf : ∀ z ∈ locs, free z.base) (hc : cells + 1 ≤ mc) (hs : slots + 6 ≤ ms) :
    W p l e R s m args below meth c H locs cells slots (vx_MQ below Qc XC args s mc ms free) (F0 m pc ls rest) := by
  intro T hT X
  have htr : e.platform.stackTraces = false := (show e.platform.stackTraces = l.stackTraces by rw [X.admits.platform]).trans hl
  have Y := vx_rebase X (R' := { frames := R.frames, locals := R.locals, cells := 1, slots := 6 }) (Nat.le_refl _) (Nat.le_refl _) hRcells hRslots
  obtain ⟨s', hA⟩ : ∃ z, z = (T.setVm s.vm).setFrames (.invoking m args :: below) := ⟨_, rfl⟩
  rw [← hA] at Y
  have hvm : s'.vm = s.vm := by rw [hA]; rfl
  have hhp : s'.heap = H := by rw [hA]; exact hT
  have hW0 : s.WarmedH s'.vm := by rw [hvm]; exact State.WarmedH.refl s
  have hat' : ∀ w ∈ vx_atS own ic cls names, w.before args s' = true := fun w hw => vx_ot_at hW0 hvm.symm (hgood w (List.mem_cons_of_mem _ (List.mem_cons_of_mem _ hw))) (hat w hw)
  have hk' : (Cond.classLink own ik cls).before args s' = true := vx_ot_at hW0 hvm.symm (hgood _ List.mem_cons_self) hk
  have hini' : (Cond.initialized cls).before args s' = true := vx_ot_at hW0 hvm.symm (hgood _ (List.mem_cons_of_mem _ List.mem_cons_self)) hini
  have hU' : vx_Zq Bundle.tN "UNASSIGNED_STACK" Bundle.steD A s' s'.heap := by rw [hhp]; exact vx_Zq.moved hW0.alike (hU.kept hS.2.1)
  have hN' : vx_Zq Bundle.tN "SUPPRESSED_SENTINEL" Bundle.listD A s' s'.heap := by rw [hhp]; exact vx_Zq.moved hW0.alike (hN.kept hS.2.1)
  have h : ∀ w ∈ Bundle.ownAtoms own ic cls names, w.before args s' = true := vx_own hat' (vx_isRefq hU'.1) (vx_isRefq hN'.1) hU'.2.word hN'.2.word
  have hown' : s'.vm.findClass own = some m.cls := by rw [hvm]; exact hown
  have hins : (Cond.instantiable cls 6).before args s' = true := h _ (by simp [Bundle.ownAtoms])
  obtain ⟨vm₁, cX, kX, hfX, hkX, -, -, X₁, st1⟩ := Y.newCold hexec (own := own) (C := cls) (index := ik) (n := 6) hown' hk' hins hini'
    (g := F0 m pc ls rest) rfl (by rw [hb]; exact d0) (Nat.le_refl _) (Nat.le_refl _)
  generalize hT1 : (T.setVm vm₁).pushCell { cls := cX, slots := kX.instanceTypes.map defaultValue, vm := .none } = T1 at X₁ st1
  have hcat : (Value.ref T.heap.size).category = 1 := rfl
  have hcellA : T1.heap[T.heap.size]? = some (freshCell cX kX) := by rw [← hT1]; exact State.heap_pushCell_size _ _
  have d3' : decode c.code (pc + 3) = .ok (.dup, 1) := by rw [hb]; exact d3
  have d4' : decode c.code (pc + 4) = .ok (.ldc is, 2) := by rw [hb]; exact d4
  have hstr' : vk_R own is text sa s' := vk_R.warm hW0 hstr
  obtain ⟨U, hsteps, hrun, hend, hW, hsame, ce, hce, hO⟩ := X₁.ctorThrowS hexec htr (own := own) (cls := cls) (names := names) (ic := ic) hown' hcls hnames h (fun x hx => nomatch hx) hfX hkX hcellA (by rw [hhp, hT]; exact Nat.le_refl _) (msg := .ref sa) rfl
    (g := { method := m, pc := pc + 6, locals := ls, stack := .ref sa :: .ref T.heap.size :: .ref T.heap.size :: rest, locked := none }) rfl hsize rfl rfl (rest := rest) rfl
    (by rw [hb]; exact d6) (by rw [hb]; exact d9) hout hRframes (by simp only [List.map_cons, List.sum_cons, hcat]; omega) hlocks
  obtain ⟨f1, f2⟩ := vx_frame hsame
  rw [hhp] at f1 f2
  have hWs : s.WarmedH U.vm := State.WarmedH.trans hW0 hW
  have hcl : s.vm.findClass cls = some ce.cls := by
    have h9 := hO.cls
    rw [hvm] at h9
    exact h9
  have hall : s.sameButNew ({ U with vm := s.vm } : State) locs mc ms := by
    subst hA
    obtain ⟨e1, e2⟩ := hsame
    rw [State.setFrames_setFrames] at e1
    have h2 : (T.setVm s.vm).sameButNew ({ U with vm := s.vm } : State) [] (0 + 1) (0 + 6) := ⟨e1, e2⟩
    have h3 := X.same.trans h2
    rw [List.append_nil] at h3
    exact h3.mono hc hs
  refine ⟨U, ?_, .threw T.heap.size, hrun, hend, Or.inr ⟨T.heap.size, rfl, cls, ce, locs, hx U hWs.alike f1 (fun q hq => f2 q hq (fun z hz => nomatch hz)), hce, hO.vm, hcl, hWs, hall, hf⟩⟩
  refine st1 _ ?_
  show Steps p.tables e below (T1.setTop { method := m, pc := pc + 3, locals := ls, stack := .ref T.heap.size :: rest, locked := none }) _
  jvm_step X₁.here [X₁.here.top, hexec, d3', Value.category]
  exact X₁.ldcString hexec (own := own) (text := text) (index := is) (a := sa) hown' hstr'.1 hstr'.2
    (g := { method := m, pc := pc + 4, locals := ls, stack := .ref T.heap.size :: .ref T.heap.size :: rest, locked := none }) rfl d4' _ hsteps
/-- 'throw new E("text")', the text by a wide index -/
theorem vx_throwSW {cc : ByteArray} {pc : Nat} (hexec : p.tables.exec = Jvm.exec) (hb : c.code = cc) (hl : l.stackTraces = false) {own cls text : String} {names : List String} {ik is ic mc ms sa : Nat} {A : Nat → Prop}
    (hown : s.vm.findClass own = some m.cls) (hcls : Bundle.fit cls = true) (hnames : ∀ n ∈ names, Bundle.fit n = true)
    (hk : (Cond.classLink own ik cls).before args s = true) (hini : (Cond.initialized cls).before args s = true) (hstr : vk_R own is text sa s) (hat : ∀ w ∈ vx_atS own ic cls names, w.before args s = true)
    (hgood : ∀ w ∈ Cond.classLink own ik cls :: Cond.initialized cls :: vx_atS own ic cls names, vx_ot w = true)
    (hU : vx_Zq Bundle.tN "UNASSIGNED_STACK" Bundle.steD A s s.heap) (hN : vx_Zq Bundle.tN "SUPPRESSED_SENTINEL" Bundle.listD A s s.heap) (hS : va_S A s.heap H locs) (hsize : ls.size = c.maxLocals)
    (d0 : decode cc pc = .ok (.new ik, 3)) (d3 : decode cc (pc + 3) = .ok (.dup, 1)) (d4 : decode cc (pc + 4) = .ok (.ldc_w is, 3)) (d7 : decode cc (pc + 7) = .ok (.invokespecial ic, 3)) (d10 : decode cc (pc + 10) = .ok (.athrow, 1))
    (hout : ∀ x ∈ c.exceptionTable.toList, covers x (pc + 10) = false)
    (hRframes : names.length + 3 < R.frames) (hRlocals : (rest.map fun v => v.category).sum + (13 * (names.length + 1) + 43) ≤ R.locals) (hRcells : cells + 1 ≤ R.cells) (hRslots : slots + 6 ≤ R.slots) (hlocks : meth.locks = false)
    (hx : ∀ t : State, s.vm.Alike t.vm → H.size ≤ t.heap.size → (∀ q : Nat, q < H.size → t.heap[q]? = H[q]?) → XC cls s t)
    (hf : ∀ z ∈ locs, free z.base) (hc : cells + 1 ≤ mc) (hs : slots + 6 ≤ ms) :
    W p l e R s m args below meth c H locs cells slots (vx_MQ below Qc XC args s mc ms free) (F0 m pc ls rest) := by
  intro T hT X
  have htr : e.platform.stackTraces = false := (show e.platform.stackTraces = l.stackTraces by rw [X.admits.platform]).trans hl
  have Y := vx_rebase X (R' := { frames := R.frames, locals := R.locals, cells := 1, slots := 6 }) (Nat.le_refl _) (Nat.le_refl _) hRcells hRslots
  obtain ⟨s', hA⟩ : ∃ z, z = (T.setVm s.vm).setFrames (.invoking m args :: below) := ⟨_, rfl⟩
  rw [← hA] at Y
  have hvm : s'.vm = s.vm := by rw [hA]; rfl
  have hhp : s'.heap = H := by rw [hA]; exact hT
  have hW0 : s.WarmedH s'.vm := by rw [hvm]; exact State.WarmedH.refl s
  have hat' : ∀ w ∈ vx_atS own ic cls names, w.before args s' = true := fun w hw => vx_ot_at hW0 hvm.symm (hgood w (List.mem_cons_of_mem _ (List.mem_cons_of_mem _ hw))) (hat w hw)
  have hk' : (Cond.classLink own ik cls).before args s' = true := vx_ot_at hW0 hvm.symm (hgood _ List.mem_cons_self) hk
  have hini' : (Cond.initialized cls).before args s' = true := vx_ot_at hW0 hvm.symm (hgood _ (List.mem_cons_of_mem _ List.mem_cons_self)) hini
  have hU' : vx_Zq Bundle.tN "UNASSIGNED_STACK" Bundle.steD A s' s'.heap := by rw [hhp]; exact vx_Zq.moved hW0.alike (hU.kept hS.2.1)
  have hN' : vx_Zq Bundle.tN "SUPPRESSED_SENTINEL" Bundle.listD A s' s'.heap := by rw [hhp]; exact vx_Zq.moved hW0.alike (hN.kept hS.2.1)
  have h : ∀ w ∈ Bundle.ownAtoms own ic cls names, w.before args s' = true := vx_own hat' (vx_isRefq hU'.1) (vx_isRefq hN'.1) hU'.2.word hN'.2.word
  have hown' : s'.vm.findClass own = some m.cls := by rw [hvm]; exact hown
  have hins : (Cond.instantiable cls 6).before args s' = true := h _ (by simp [Bundle.ownAtoms])
  obtain ⟨vm₁, cX, kX, hfX, hkX, -, -, X₁, st1⟩ := Y.newCold hexec (own := own) (C := cls) (index := ik) (n := 6) hown' hk' hins hini'
    (g := F0 m pc ls rest) rfl (by rw [hb]; exact d0) (Nat.le_refl _) (Nat.le_refl _)
  generalize hT1 : (T.setVm vm₁).pushCell { cls := cX, slots := kX.instanceTypes.map defaultValue, vm := .none } = T1 at X₁ st1
  have hcat : (Value.ref T.heap.size).category = 1 := rfl
  have hcellA : T1.heap[T.heap.size]? = some (freshCell cX kX) := by rw [← hT1]; exact State.heap_pushCell_size _ _
  have d3' : decode c.code (pc + 3) = .ok (.dup, 1) := by rw [hb]; exact d3
  have d4' : decode c.code (pc + 4) = .ok (.ldc_w is, 3) := by rw [hb]; exact d4
  have hstr' : vk_R own is text sa s' := vk_R.warm hW0 hstr
  obtain ⟨U, hsteps, hrun, hend, hW, hsame, ce, hce, hO⟩ := X₁.ctorThrowS hexec htr (own := own) (cls := cls) (names := names) (ic := ic) hown' hcls hnames h (fun x hx => nomatch hx) hfX hkX hcellA (by rw [hhp, hT]; exact Nat.le_refl _) (msg := .ref sa) rfl
    (g := { method := m, pc := pc + 7, locals := ls, stack := .ref sa :: .ref T.heap.size :: .ref T.heap.size :: rest, locked := none }) rfl hsize rfl rfl (rest := rest) rfl
    (by rw [hb]; exact d7) (by rw [hb]; exact d10) hout hRframes (by simp only [List.map_cons, List.sum_cons, hcat]; omega) hlocks
  obtain ⟨f1, f2⟩ := vx_frame hsame
  rw [hhp] at f1 f2
  have hWs : s.WarmedH U.vm := State.WarmedH.trans hW0 hW
  have hcl : s.vm.findClass cls = some ce.cls := by
    have h9 := hO.cls
    rw [hvm] at h9
    exact h9
  have hall : s.sameButNew ({ U with vm := s.vm } : State) locs mc ms := by
    subst hA
    obtain ⟨e1, e2⟩ := hsame
    rw [State.setFrames_setFrames] at e1
    have h2 : (T.setVm s.vm).sameButNew ({ U with vm := s.vm } : State) [] (0 + 1) (0 + 6) := ⟨e1, e2⟩
    have h3 := X.same.trans h2
    rw [List.append_nil] at h3
    exact h3.mono hc hs
  refine ⟨U, ?_, .threw T.heap.size, hrun, hend, Or.inr ⟨T.heap.size, rfl, cls, ce, locs, hx U hWs.alike f1 (fun q hq => f2 q hq (fun z hz => nomatch hz)), hce, hO.vm, hcl, hWs, hall, hf⟩⟩
  refine st1 _ ?_
  show Steps p.tables e below (T1.setTop { method := m, pc := pc + 3, locals := ls, stack := .ref T.heap.size :: rest, locked := none }) _
  jvm_step X₁.here [X₁.here.top, hexec, d3', Value.category]
  exact X₁.ldcStringW hexec (own := own) (text := text) (index := is) (a := sa) hown' hstr'.1 hstr'.2
    (g := { method := m, pc := pc + 4, locals := ls, stack := .ref T.heap.size :: .ref T.heap.size :: rest, locked := none }) rfl d4' _ hsteps
end Ends
section Bodies
variable {l : Launch}
theorem vx_ofW {y : MethodName} {ws ws' : List Cond} {rm : Room} {Pc : Array Value → State → Prop} {Qc : Array Value → State → Outcome → State → Prop} {XC : String → State → State → Prop} {mc ms : Nat} {free : Addr → Prop} {cc : ByteArray} {maxL : Nat} {ret : Option FieldType}
    (hy : plainName y.cls = true) (hw : ws = Cond.code y cc maxL ret :: ws')
    (body : ∀ p e s m args below meth c s₁, BodyLoose p l y (headSpec ws rm) cc maxL ret e s m args below meth c s₁ → c.maxLocals = maxL → (∀ x ∈ c.exceptionTable.toList, False) → Pc args s →
      W p l e (headSpec ws rm).room s m args below meth c s.heap [] 0 0 (vx_MQ below Qc XC args s mc ms free) (entryFrame m args maxL)) : vx_Met l y ws rm Pc Qc XC mc ms free := by
  refine MetFree.of_bodyS (code := cc) (maxLocals := maxL) (ret := ret) hy ?_ ?_
  · intro args s m h hn
    obtain ⟨meth, c, h1, h2, h3, h4, h5, h6, -, -⟩ := Cond.code_spec hn (atoms_spec (ws := ws) h _ (by rw [hw]; exact List.mem_cons_self))
    exact ⟨meth, c, h1, h2, h3, h4, h5, h6⟩
  · intro p e s m args below meth c s₁ B hml hP _
    have hh0 : s₁.heap = s.heap := by rw [B.state]; rfl
    have ht : ∀ x ∈ c.exceptionTable.toList, False := by
      obtain ⟨meth9, c9, h1, h2, -, -, -, -, h7, -⟩ := Cond.code_spec B.named (atoms_spec (ws := ws) B.pre _ (by rw [hw]; exact List.mem_cons_self))
      cases Option.some.inj (h1.symm.trans B.method)
      cases Option.some.inj (h2.symm.trans (Stand.of_body B).code)
      intro x hx
      rw [Array.isEmpty_iff.mp h7] at hx
      cases hx
    obtain ⟨t, a1, o, b1, b2, b3⟩ := body p e s m args below meth c s₁ B hml ht hP s₁ hh0 (Stand.of_body B)
    exact ⟨t, o, a1, b1, b2, b3⟩
/-- the table of a body with handlers -/
theorem vx_table {p : Program} {x y : MethodName} {S : Spec} {cc bytes : ByteArray} {maxL maxL' : Nat} {ret ret' : Option FieldType} {e : Env} {s s₁ : State} {m : MethodId} {args : Array Value} {below : List Frame} {meth : Method} {c : Code} {hh : List (Nat × Nat × Nat × Nat)}
    (B : BodyLoose p l y S cc maxL ret e s m args below meth c s₁) (h : (Cond.codeWith y bytes maxL' ret' hh).before args s = true) : c.exceptionTable.toList = tableOf hh := by
  obtain ⟨m9, meth9, c9, hn9, h1, h2, -, -, h6, -⟩ := Cond.codeWith_spec h
  cases Option.some.inj (hn9.symm.trans B.named)
  cases Option.some.inj (h1.symm.trans B.method)
  cases Option.some.inj (h2.symm.trans (Stand.of_body B).code)
  rw [← h6, table_eq]
end Bodies
end VXA
/-! ===== END ===== -/
/-! ===== BEGIN a static call of a method with an exception table ===== -/
section VXS
variable {p : Program} {l : Launch} {e : Env} {R : Room} {s : State} {m : MethodId} {args : Array Value} {below : List Frame} {meth : Method} {c : Code} {T : State} {H : Heap} {locs : List Loc} {cells slots : Nat}
abbrev vx_CSW (R : Room) (s : State) (args : Array Value) (own : String) (index : Nat) (y : MethodName) (bytes : ByteArray) (maxL : Nat) (ret : Option FieldType) (hh : List (Nat × Nat × Nat × Nat)) (ws : List Cond) (rm : Room) (mc ms n : Nat) : Prop :=
  (rm.cells = mc ∧ rm.slots = ms ∧ rm.frames + 1 ≤ R.frames ∧ 8 + (maxL + 11) + rm.locals ≤ R.locals ∧ (∀ w ∈ ws, ∀ (a' : Array Value) (U : State), s.WarmedH U.vm → w.before a' U = true) ∧ Cond.codeWith y bytes maxL ret hh ∈ ws) ∧
  (Cond.codeWith y bytes maxL ret hh).before args s = true ∧ (Cond.initialized y.cls).before args s = true ∧ (y.cls ≠ "java/lang/invoke/MethodHandle" ∧ y.cls ≠ "java/lang/invoke/VarHandle") ∧
  (∀ sig, parseMethodDescriptor y.desc = some sig → n = sig.parameters.length) ∧ (Cond.methodLink own index y).before args s = true ∧ (Cond.static y).before args s = true
theorem vx_cwSW {own : String} {index maxL mc ms : Nat} {y : MethodName} {bytes : ByteArray} {ret : Option FieldType} {hh : List (Nat × Nat × Nat × Nat)} {Ts ws ws' : List Cond} {rm : Room} (n : Nat) (ht : ∀ w ∈ Ts, w.before args s = true) (hT : GoodIn Ts (va_wsS own index y ws)) (hw : ws = Cond.codeWith y bytes maxL ret hh :: ws') (hrc : rm.cells = mc) (hrs : rm.slots = ms)
    (hd : y.cls ≠ "java/lang/invoke/MethodHandle" ∧ y.cls ≠ "java/lang/invoke/VarHandle" ∧ (parseMethodDescriptor y.desc).map (fun d => d.parameters.length) = some n) (hR : rm.frames + 1 ≤ R.frames ∧ 8 + (maxL + 11) + rm.locals ≤ R.locals) :
    vx_CSW R s args own index y bytes maxL ret hh ws rm mc ms n := by
  have ok : ∀ w ∈ va_wsS own index y ws, w.before args s = true := fun w h => ht w (hT w h).1
  have hG : GoodIn Ts ws := fun w h => hT w (by unfold va_wsS; exact List.mem_append_right _ h)
  have hc : Cond.codeWith y bytes maxL ret hh ∈ ws := by rw [hw]; exact List.mem_cons_self
  refine ⟨⟨hrc, hrs, hR.1, hR.2, pay_in ht hG, hc⟩, ht _ (hG _ hc).1, ok _ (by simp [va_wsS]), ⟨hd.1, hd.2.1⟩, fun sig h => ?_, ok _ (by simp [va_wsS]), ok _ (by simp [va_wsS])⟩
  have h2 := hd.2.2
  rw [h] at h2
  exact (Option.some.inj h2).symm
theorem vx_callSW (X : Stand p l e R s m args below meth c T locs cells slots) (hexec : p.tables.exec = Jvm.exec) {own : String} {index : Nat} {y : MethodName} {bytes : ByteArray} {maxL : Nat} {ret : Option FieldType} {hh : List (Nat × Nat × Nat × Nat)}
    (hown : s.vm.findClass own = some m.cls) (hlink : (Cond.methodLink own index y).before args s = true) (hstat : (Cond.static y).before args s = true) (hinit : (Cond.initialized y.cls).before args s = true)
    (hcode : (Cond.codeWith y bytes maxL ret hh).before args s = true) (hy : y.cls ≠ "java/lang/invoke/MethodHandle" ∧ y.cls ≠ "java/lang/invoke/VarHandle")
    {W9 : Nat} {Pre : Pt → Array Value → Prop} {Post : Pt → Array Value → Option Value → Pt → Prop} (hK : Back l R p e below s args y 3 W9 Pre Post)
    {g : JFrame} (hg : g.method = m) (hsize : g.locals.size = c.maxLocals) {argsL rest : List Value} (hlen : ∀ sig, parseMethodDescriptor y.desc = some sig → argsL.length = sig.parameters.length)
    (hstack : g.stack = argsL.reverse ++ rest) (hW : 2 * g.monitorRoom + (rest.map fun v => v.category).sum ≤ W9) (hdg : decode c.code g.pc = .ok (.invokestatic index, 3))
    (hpre : ∀ vm₁, s.WarmedH vm₁ → Pre ⟨T.setVm vm₁, locs, cells, slots⟩ argsL.toArray) :
    ∃ (v : Option Value) (vm₁ : Vm) (B : Pt), s.WarmedH vm₁ ∧ Stand p l e R s m args below meth c B.U B.locs B.cells B.slots ∧ Post ⟨T.setVm vm₁, locs, cells, slots⟩ argsL.toArray v B ∧
      ∀ target, Steps p.tables e below (B.U.setTop { g with pc := g.pc + 3, stack := v.toList ++ rest }) target → Steps p.tables e below (T.setTop g) target := by
  obtain ⟨mk, methM, cM, hnamed, hmethM, -, -, -, -, -, -, hsigM⟩ := Cond.codeWith_spec hcode
  have hstatic : methM.isStatic = true := Cond.static_spec hnamed hmethM hstat
  obtain ⟨kP, hkP, -⟩ := className_of_methodNamed hnamed
  have hinitP : kP.init = .initialized := Cond.initialized_spec (findClass_of_methodNamed hnamed) hkP hinit
  obtain ⟨vm₁, X₁, hstep₁⟩ := X.invokestatic hexec hown hlink hnamed hmethM hstatic hkP hinitP hy (g := g) hg (argsL := argsL) (rest := rest) (hlen _ hsigM) hstack hdg
  obtain ⟨v, B, X', hpost, hsteps⟩ := hK m meth c ⟨T.setVm vm₁, locs, cells, slots⟩ { g with stack := rest } (.invokestatic index) mk argsL.toArray X₁ hg hsize hdg hW (X₁.named hnamed) (hpre vm₁ X₁.warmed)
  exact ⟨v, vm₁, B, X₁.warmed, X', hpost, fun target h => hstep₁ _ fun acts => by rw [doInvoke_state]; exact hsteps.trans h⟩
theorem vx_runSW {y : MethodName} {bytes cc : ByteArray} {maxL nL mc ms n index : Nat} {ret : Option FieldType} {hh : List (Nat × Nat × Nat × Nat)} {ws : List Cond} {rm : Room} {Pc : Array Value → State → Prop} {Qc : Array Value → State → Outcome → State → Prop} {free : Addr → Prop} {Ts : List Cond} {own : String} {As rest : List Value} {g : JFrame}
    (S : CallFix p m c cc nL s args Ts own) (hM : Met l y ws rm Pc Qc mc ms free) (cw : vx_CSW R s args own index y bytes maxL ret hh ws rm mc ms n) (hp : PreS s H Pc As)
    (hg : g.method = m) (hn : As.length = n) (hsize : g.locals.size = nL) (hstack : g.stack = As.reverse ++ rest) (hW : 2 * g.monitorRoom + (rest.map fun v => v.category).sum ≤ 8) (hdg : decode cc g.pc = .ok (.invokestatic index, 3)) (hf : cells + mc ≤ R.cells ∧ slots + ms ≤ R.slots) :
    va_Run p l e R s m args below meth c H locs cells slots mc ms g rest (Qc As.toArray) (free) := by
  obtain ⟨⟨hrc, hrs, hfr, hlo, hws, hcw⟩, hcode, hini, hy, hlen, hl, hstt⟩ := cw
  have hK : Back l R p e below s args y 3 8 (PreOf R mc ms Pc) (PostOf Qc mc ms free) := va_backW (hh := hh) (bytes := bytes) (maxL := maxL) (ret := ret) hM hp.1 hrc hrs hfr hlo hws hcw (fun a' U hW => word_at hW (Or.inl (by first | rfl | simp [Cond.onTables, Cond.keeps, Cond.steady])) hini)
  obtain ⟨hx, hb, hml, ho, -⟩ := S
  intro T hT X
  obtain ⟨v, vm₁, ⟨U', l2, c2, s2⟩, hW₁, X', ⟨g', mk, t, L, e1, e2, hq, h1, hL, h2, h3⟩, st⟩ := vx_callSW X hx (hh := hh) (bytes := bytes) (maxL := maxL) (ret := ret) ho hl hstt hini hcode hy hK hg (hsize.trans hml.symm) (argsL := As) (rest := rest) (fun sig h => hn.trans (hlen sig h)) hstack hW (by rw [hb]; exact hdg)
    (fun vm₁ hW₁ => ⟨hf.1, hf.2, hp.2 (T.setVm vm₁) hT hW₁⟩)
  dsimp only [Pt.U, Pt.locs, Pt.cells, Pt.slots] at X' e1 e2 h1 h2 h3 st
  subst h1; subst h2; subst h3
  exact ⟨v, (T.setVm vm₁).calling g' mk As.toArray, t, U', L, hT, X', hL, e1, e2, hq, st⟩
theorem vx_lt {D : va_G} {cl : List vw_C} {ws : va_W} {H1 : Heap} (h : va_P D cl ws H1) {k : Nat} {q : Nat × va_E} (hk : ws[k]? = some q) : q.1 < H1.size := (h k q hk).lt
end VXS
/-! ===== END ===== -/
/-! ===== BEGIN methods with a table of their own: called by a name, returning or throwing ===== -/
section VXH
/-! vx_backW, vx_callVX, vx_callSX, vx_callVW, vx_runVW, vx_runVX, vx_runSX, vx_ofWH follow the same proofs as their sisters above (Free/Laws.lean, Shelf42/LK1.lean); vx_outP calls Shelf42/NT130.lean (outThrough). -/
section
variable {l : Launch} {R : Room} {p : Program} {e : Env} {below : List Frame} {s : State} {sargs : Array Value} {y : MethodName} {len W9 : Nat}
theorem vx_backW {ws : List Cond} {rm : Room} {Pc : Array Value → State → Prop} {Qc : Array Value → State → Outcome → State → Prop} {XC : String → State → State → Prop} {mc ms : Nat} {free : Addr → Prop} {bytes : ByteArray} {maxL : Nat} {ret : Option FieldType} {hh : List (Nat × Nat × Nat × Nat)}
    (hM : vx_Met l y ws rm Pc Qc XC mc ms free) (hblind : FrameBlind Pc) (hrc : rm.cells = mc) (hrs : rm.slots = ms)
    (hframes : rm.frames + 1 ≤ R.frames) (hlocals : W9 + (maxL + 11) + rm.locals ≤ R.locals)
    (hws : ∀ w ∈ ws, ∀ a' U, s.WarmedH U.vm → w.before a' U = true) (hcode : Cond.codeWith y bytes maxL ret hh ∈ ws) (hinit : ∀ a' U, s.WarmedH U.vm → (Cond.initialized y.cls).before a' U = true) :
    vx_Back l R p e below s sargs y len W9 (PreOf R mc ms Pc) (PostOf Qc mc ms free) (vx_Post XC mc ms free) := by
  intro m meth c A g ig mk a X hg hsize hdg hW hn hp
  have h1 : (headSpec ws rm).pre.before a A.U = true := atoms_intro fun w hw => hws w hw _ _ X.warmed
  have h2 : (Cond.codeWith y bytes maxL ret hh).before a A.U = true := hws _ hcode _ _ X.warmed
  have h3 : (Cond.initialized y.cls).before a A.U = true := hinit _ _ X.warmed
  have h4 : A.cells + (headSpec ws rm).room.cells ≤ R.cells := by rw [show (headSpec ws rm).room.cells = mc from hrc]; exact hp.1
  have h5 : A.slots + (headSpec ws rm).room.slots ≤ R.slots := by rw [show (headSpec ws rm).room.slots = ms from hrs]; exact hp.2.1
  have hPc : Pc a (A.U.calling g mk a) := hblind _ _ _ _ hp.2.2
  obtain ⟨U, Ls, c0, s0⟩ := A
  dsimp only [Pt.U, Pt.locs, Pt.cells, Pt.slots] at h1 h2 h3 h4 h5 X hn hPc ⊢
  obtain ⟨m9, methY, cY, hn9, hmY, hcY, -, hlY, -⟩ := Cond.codeWith_spec h2
  cases Option.some.inj (hn9.symm.trans hn)
  obtain ⟨kY, hkY, -⟩ := className_of_methodNamed hn
  have hinitY : kY.init = .initialized := Cond.initialized_spec (findClass_of_methodNamed hn) hkY h3
  have h : At U g.method c below := by rw [hg]; exact X.here
  have hlocals9 : W9 + (maxL + 11) + (headSpec ws rm).room.locals ≤ R.locals := hlocals
  have happ : (headSpec ws rm).appliesLoose y e.platform (U.calling g mk a) = true :=
    Spec.appliesLoose_calling (g := g) h hdg hn hkY hinitY
      (X.room_calling (g := g) (R' := (headSpec ws rm).room) hsize hmY hcY hframes (by rw [hlY]; omega) h4 h5) h1
  obtain ⟨mid, hmid⟩ := h.above
  have hfr : (U.setTop g).frames = (.java g :: mid) ++ below := by rw [State.frames_setTop' g h.top, hmid]; rfl
  obtain ⟨o, s₂, hsteps, -, hend, hq⟩ := Steps.callFree hM p X.admits X.cas X.clock (acts := []) hfr happ hPc trivial
  have hq' : vx_Q Qc XC mc ms free a (U.calling g mk a) o s₂ := hq
  rw [State.frames_setTop' g h.top] at hend
  obtain ⟨g₀, hg0⟩ := Option.isSome_iff_exists.mp h.top
  obtain ⟨r, hr⟩ := State.topJava?_eq_some.mp hg0
  have hr' : (({ U with heap := s₂.heap, slotsUsed := s₂.slotsUsed } : State).setVm s₂.vm).frames = .java g₀ :: r := hr
  rcases hq' with ⟨hqc, L, hfe, hL⟩ | ⟨q, rfl, E, ce, L, hx, hce, hcv, hcl, hW₂, hsm, hL⟩
  · obtain ⟨⟨v, rfl⟩, hW₂, e2, q2, q3, q4, q5, q6⟩ := id hfe
    have e3 : s₂ = ({ (U.calling g mk a).setFrames s₂.frames with heap := s₂.heap, slotsUsed := s₂.slotsUsed } : State).setVm s₂.vm := by
      have : s₂ = ({ s₂ with vm := (U.calling g mk a).vm } : State).setVm s₂.vm := rfl
      rw [e2] at this
      exact this
    obtain ⟨c₂, i₂, len₂, hc₂, hd₂, hf₂⟩ := hend
    have hW' : U.WarmedH s₂.vm := hW₂
    have hcc : c₂ = c := by
      have h1 : s₂.code? g.method = U.code? g.method := by
        rw [State.code?_eq, State.code?_eq, hW'.alike.method?]
      exact Option.some.inj (hc₂.symm.trans (h1.trans h.code))
    subst hcc
    have hlen : len₂ = len := by rw [hdg] at hd₂; cases hd₂; rfl
    subst hlen
    have hs₂ : s₂ = (({ U with heap := s₂.heap, slotsUsed := s₂.slotsUsed } : State).setVm s₂.vm).setTop { g with pc := g.pc + len₂, stack := v.toList ++ g.stack } := by
      refine e3.trans ?_
      rw [hf₂, State.calling_eq h.top, State.setFrames_setFrames, State.setTop_of_frames _ hr', hr]
      rfl
    have hsame : U.sameButNew ({ U with heap := s₂.heap, slotsUsed := s₂.slotsUsed } : State) L mc ms := by
      refine ⟨?_, q2, q3, q4, q5, q6⟩
      obtain ⟨t, ht, -⟩ := State.frames_cons hr
      show ({ U with heap := s₂.heap, slotsUsed := s₂.slotsUsed } : State) = { U.setFrames U.frames with heap := s₂.heap, slotsUsed := s₂.slotsUsed }
      rw [State.setFrames_self ht]
    subst hg
    refine Or.inl ⟨v, ⟨(({ U with heap := s₂.heap, slotsUsed := s₂.slotsUsed } : State).setVm s₂.vm), Ls ++ L, c0 + mc, s0 + ms⟩,
      ⟨X.admits, X.cas, X.clock, X.frames, X.room, X.hears, X.method, X.code, (X.here.setHeapUsed s₂.heap s₂.slotsUsed).setVm hW'.alike, X.tail, State.WarmedH.trans X.warmed hW', X.limits, X.bytes, X.same.trans (hsame.setVm s.vm)⟩,
      ⟨g, mk, s₂, L, rfl, rfl, hqc, rfl, hL, rfl, rfl⟩, ?_⟩
    show Steps p.tables e below _ ((({ U with heap := s₂.heap, slotsUsed := s₂.slotsUsed } : State).setVm s₂.vm).setTop { g with pc := g.pc + len₂, stack := v.toList ++ g.stack })
    rw [← hs₂]
    exact hsteps
  · obtain ⟨e2, q2, q3, q4, q5, q6⟩ := id hsm
    have e3 : s₂ = ({ (U.calling g mk a).setFrames s₂.frames with heap := s₂.heap, slotsUsed := s₂.slotsUsed } : State).setVm s₂.vm := by
      have : s₂ = ({ s₂ with vm := (U.calling g mk a).vm } : State).setVm s₂.vm := rfl
      rw [e2] at this
      exact this
    have hf₂ : s₂.frames = .throwing q :: .java g :: U.frames.tail := hend
    have hW' : U.WarmedH s₂.vm := hW₂
    have hs₂ : s₂ = ((({ U with heap := s₂.heap, slotsUsed := s₂.slotsUsed } : State).setVm s₂.vm).setTop g).pushFrame (.throwing q) := by
      refine e3.trans ?_
      rw [hf₂, State.calling_eq h.top, State.setFrames_setFrames, State.pushFrame, State.frames_setTop _ hr', State.setTop_of_frames _ hr', State.setFrames_setFrames, hr]
      rfl
    have hsame : U.sameButNew ({ U with heap := s₂.heap, slotsUsed := s₂.slotsUsed } : State) L mc ms := by
      refine ⟨?_, q2, q3, q4, q5, q6⟩
      obtain ⟨t, ht, -⟩ := State.frames_cons hr
      show ({ U with heap := s₂.heap, slotsUsed := s₂.slotsUsed } : State) = { U.setFrames U.frames with heap := s₂.heap, slotsUsed := s₂.slotsUsed }
      rw [State.setFrames_self ht]
    subst hg
    refine Or.inr ⟨q, ⟨(({ U with heap := s₂.heap, slotsUsed := s₂.slotsUsed } : State).setVm s₂.vm), Ls ++ L, c0 + mc, s0 + ms⟩,
      ⟨X.admits, X.cas, X.clock, X.frames, X.room, X.hears, X.method, X.code, (X.here.setHeapUsed s₂.heap s₂.slotsUsed).setVm hW'.alike, X.tail, State.WarmedH.trans X.warmed hW', X.limits, X.bytes, X.same.trans (hsame.setVm s.vm)⟩,
      ⟨g, mk, s₂, L, E, ce, rfl, rfl, hx, hce, hcv, hcl, rfl, hL, rfl, rfl⟩, ?_⟩
    show Steps p.tables e below _ (((({ U with heap := s₂.heap, slotsUsed := s₂.slotsUsed } : State).setVm s₂.vm).setTop g).pushFrame (.throwing q))
    rw [← hs₂]
    exact hsteps
end
variable {p : Program} {l : Launch} {e : Env} {R : Room} {s : State} {m : MethodId} {args : Array Value} {below : List Frame} {meth : Method} {c : Code} {T : State} {H : Heap} {locs : List Loc} {cells slots : Nat}
theorem vx_callVX (X : Stand p l e R s m args below meth c T locs cells slots) (hexec : p.tables.exec = Jvm.exec) {own C : String} {index : Nat} {y : MethodName} {bytes : ByteArray} {maxL : Nat} {ret : Option FieldType} {hh : List (Nat × Nat × Nat × Nat)}
    (hown : s.vm.findClass own = some m.cls) (hlink : (Cond.methodLink own index y).before args s = true) (hinst : (Cond.instanceMethod y).before args s = true) (hsel : (Cond.selects C y y).before args s = true)
    (hcode : (Cond.codeWith y bytes maxL ret hh).before args s = true) (hy : y.cls ≠ "java/lang/invoke/MethodHandle" ∧ y.cls ≠ "java/lang/invoke/VarHandle")
    {W9 : Nat} {Pre : Pt → Array Value → Prop} {Post : Pt → Array Value → Option Value → Pt → Prop} {PostX : Pt → Array Value → Addr → Pt → Prop} (hK : vx_Back l R p e below s args y 3 W9 Pre Post PostX)
    {b : Addr} {cellB : Cell} (hcell : T.heap[b]? = some cellB) (hobj : cellB.vm.isStatics = false) (hcls : s.vm.findClass C = some cellB.cls)
    {g : JFrame} (hg : g.method = m) (hsize : g.locals.size = c.maxLocals) {argsL rest : List Value} (hlen : ∀ sig, parseMethodDescriptor y.desc = some sig → argsL.length = sig.parameters.length)
    (hstack : g.stack = argsL.reverse ++ .ref b :: rest) (hW : 2 * g.monitorRoom + (rest.map fun v => v.category).sum ≤ W9) (hdg : decode c.code g.pc = .ok (.invokevirtual index, 3))
    (hpre : ∀ vm₁, s.WarmedH vm₁ → Pre ⟨T.setVm vm₁, locs, cells, slots⟩ (Value.ref b :: argsL).toArray) :
    (∃ (v : Option Value) (vm₁ : Vm) (B : Pt), s.WarmedH vm₁ ∧ Stand p l e R s m args below meth c B.U B.locs B.cells B.slots ∧ Post ⟨T.setVm vm₁, locs, cells, slots⟩ (Value.ref b :: argsL).toArray v B ∧
      ∀ target, Steps p.tables e below (B.U.setTop { g with pc := g.pc + 3, stack := v.toList ++ rest }) target → Steps p.tables e below (T.setTop g) target) ∨
    (∃ (q : Addr) (vm₁ : Vm) (B : Pt), s.WarmedH vm₁ ∧ Stand p l e R s m args below meth c B.U B.locs B.cells B.slots ∧ PostX ⟨T.setVm vm₁, locs, cells, slots⟩ (Value.ref b :: argsL).toArray q B ∧
      Steps p.tables e below (T.setTop g) ((B.U.setTop { g with stack := rest }).pushFrame (.throwing q))) := by
  obtain ⟨mk, methM, hnamed, hmethM, hstM, habM⟩ := Cond.instanceMethod_spec hinst
  obtain ⟨m8, methM', cM, hn8, hmethM', -, -, -, -, -, -, hsigM⟩ := Cond.codeWith_spec hcode
  cases Option.some.inj (hn8.symm.trans hnamed)
  cases hmethM.symm.trans hmethM'
  obtain ⟨c2, r2, m2, q1, q2, q3, q4, kP, hkP, hkPi⟩ := Cond.selects_spec hsel
  cases hcls.symm.trans q1
  cases (State.methodFound?_of_named hnamed hy).symm.trans q2
  cases hnamed.symm.trans q3
  have hselP : selectMethod e.platform s.vm cellB.cls mk = .method mk := by rw [Launch.admits_selectMethod X.admits]; exact q4
  obtain ⟨vm₁, X₁, hstep₁⟩ := X.invokevirtual hexec hown hlink hnamed hmethM hstM hkP hkPi hy (a := b) (cell := cellB) hcell
    (fun z h => by rw [h] at hobj; cases hobj) hselP hmethM habM hkP hkPi (g := g) hg (argsL := argsL) (rest := rest) (hlen _ hsigM) hstack hdg
  rcases hK m meth c ⟨T.setVm vm₁, locs, cells, slots⟩ { g with stack := rest } (.invokevirtual index) mk (Value.ref b :: argsL).toArray X₁ hg hsize hdg hW (X₁.named hnamed) (hpre vm₁ X₁.warmed) with ⟨v, B, X', hpost, hsteps⟩ | ⟨q, B, X', hpost, hsteps⟩
  · exact Or.inl ⟨v, vm₁, B, X₁.warmed, X', hpost, fun target h => hstep₁ _ fun acts => by rw [doInvoke_state]; exact hsteps.trans h⟩
  · exact Or.inr ⟨q, vm₁, B, X₁.warmed, X', hpost, hstep₁ _ fun acts => by rw [doInvoke_state]; exact hsteps⟩
theorem vx_callSX (X : Stand p l e R s m args below meth c T locs cells slots) (hexec : p.tables.exec = Jvm.exec) {own : String} {index : Nat} {y : MethodName} {bytes : ByteArray} {maxL : Nat} {ret : Option FieldType} {hh : List (Nat × Nat × Nat × Nat)}
    (hown : s.vm.findClass own = some m.cls) (hlink : (Cond.methodLink own index y).before args s = true) (hstat : (Cond.static y).before args s = true) (hinit : (Cond.initialized y.cls).before args s = true)
    (hcode : (Cond.codeWith y bytes maxL ret hh).before args s = true) (hy : y.cls ≠ "java/lang/invoke/MethodHandle" ∧ y.cls ≠ "java/lang/invoke/VarHandle")
    {W9 : Nat} {Pre : Pt → Array Value → Prop} {Post : Pt → Array Value → Option Value → Pt → Prop} {PostX : Pt → Array Value → Addr → Pt → Prop} (hK : vx_Back l R p e below s args y 3 W9 Pre Post PostX)
    {g : JFrame} (hg : g.method = m) (hsize : g.locals.size = c.maxLocals) {argsL rest : List Value} (hlen : ∀ sig, parseMethodDescriptor y.desc = some sig → argsL.length = sig.parameters.length)
    (hstack : g.stack = argsL.reverse ++ rest) (hW : 2 * g.monitorRoom + (rest.map fun v => v.category).sum ≤ W9) (hdg : decode c.code g.pc = .ok (.invokestatic index, 3))
    (hpre : ∀ vm₁, s.WarmedH vm₁ → Pre ⟨T.setVm vm₁, locs, cells, slots⟩ argsL.toArray) :
    (∃ (v : Option Value) (vm₁ : Vm) (B : Pt), s.WarmedH vm₁ ∧ Stand p l e R s m args below meth c B.U B.locs B.cells B.slots ∧ Post ⟨T.setVm vm₁, locs, cells, slots⟩ argsL.toArray v B ∧
      ∀ target, Steps p.tables e below (B.U.setTop { g with pc := g.pc + 3, stack := v.toList ++ rest }) target → Steps p.tables e below (T.setTop g) target) ∨
    (∃ (q : Addr) (vm₁ : Vm) (B : Pt), s.WarmedH vm₁ ∧ Stand p l e R s m args below meth c B.U B.locs B.cells B.slots ∧ PostX ⟨T.setVm vm₁, locs, cells, slots⟩ argsL.toArray q B ∧
      Steps p.tables e below (T.setTop g) ((B.U.setTop { g with stack := rest }).pushFrame (.throwing q))) := by
  obtain ⟨mk, methM, cM, hnamed, hmethM, -, -, -, -, -, -, hsigM⟩ := Cond.codeWith_spec hcode
  have hstatic : methM.isStatic = true := Cond.static_spec hnamed hmethM hstat
  obtain ⟨kP, hkP, -⟩ := className_of_methodNamed hnamed
  have hinitP : kP.init = .initialized := Cond.initialized_spec (findClass_of_methodNamed hnamed) hkP hinit
  obtain ⟨vm₁, X₁, hstep₁⟩ := X.invokestatic hexec hown hlink hnamed hmethM hstatic hkP hinitP hy (g := g) hg (argsL := argsL) (rest := rest) (hlen _ hsigM) hstack hdg
  rcases hK m meth c ⟨T.setVm vm₁, locs, cells, slots⟩ { g with stack := rest } (.invokestatic index) mk argsL.toArray X₁ hg hsize hdg hW (X₁.named hnamed) (hpre vm₁ X₁.warmed) with ⟨v, B, X', hpost, hsteps⟩ | ⟨q, B, X', hpost, hsteps⟩
  · exact Or.inl ⟨v, vm₁, B, X₁.warmed, X', hpost, fun target h => hstep₁ _ fun acts => by rw [doInvoke_state]; exact hsteps.trans h⟩
  · exact Or.inr ⟨q, vm₁, B, X₁.warmed, X', hpost, hstep₁ _ fun acts => by rw [doInvoke_state]; exact hsteps⟩
theorem vx_callVW (X : Stand p l e R s m args below meth c T locs cells slots) (hexec : p.tables.exec = Jvm.exec) {own C : String} {index : Nat} {y : MethodName} {bytes : ByteArray} {maxL : Nat} {ret : Option FieldType} {hh : List (Nat × Nat × Nat × Nat)}
    (hown : s.vm.findClass own = some m.cls) (hlink : (Cond.methodLink own index y).before args s = true) (hinst : (Cond.instanceMethod y).before args s = true) (hsel : (Cond.selects C y y).before args s = true)
    (hcode : (Cond.codeWith y bytes maxL ret hh).before args s = true) (hy : y.cls ≠ "java/lang/invoke/MethodHandle" ∧ y.cls ≠ "java/lang/invoke/VarHandle")
    {W9 : Nat} {Pre : Pt → Array Value → Prop} {Post : Pt → Array Value → Option Value → Pt → Prop} (hK : Back l R p e below s args y 3 W9 Pre Post)
    {b : Addr} {cellB : Cell} (hcell : T.heap[b]? = some cellB) (hobj : cellB.vm.isStatics = false) (hcls : s.vm.findClass C = some cellB.cls)
    {g : JFrame} (hg : g.method = m) (hsize : g.locals.size = c.maxLocals) {argsL rest : List Value} (hlen : ∀ sig, parseMethodDescriptor y.desc = some sig → argsL.length = sig.parameters.length)
    (hstack : g.stack = argsL.reverse ++ .ref b :: rest) (hW : 2 * g.monitorRoom + (rest.map fun v => v.category).sum ≤ W9) (hdg : decode c.code g.pc = .ok (.invokevirtual index, 3))
    (hpre : ∀ vm₁, s.WarmedH vm₁ → Pre ⟨T.setVm vm₁, locs, cells, slots⟩ (Value.ref b :: argsL).toArray) :
    ∃ (v : Option Value) (vm₁ : Vm) (B : Pt), s.WarmedH vm₁ ∧ Stand p l e R s m args below meth c B.U B.locs B.cells B.slots ∧ Post ⟨T.setVm vm₁, locs, cells, slots⟩ (Value.ref b :: argsL).toArray v B ∧
      ∀ target, Steps p.tables e below (B.U.setTop { g with pc := g.pc + 3, stack := v.toList ++ rest }) target → Steps p.tables e below (T.setTop g) target := by
  obtain ⟨mk, methM, hnamed, hmethM, hstM, habM⟩ := Cond.instanceMethod_spec hinst
  obtain ⟨m8, methM', cM, hn8, hmethM', -, -, -, -, -, -, hsigM⟩ := Cond.codeWith_spec hcode
  cases Option.some.inj (hn8.symm.trans hnamed)
  cases hmethM.symm.trans hmethM'
  obtain ⟨c2, r2, m2, q1, q2, q3, q4, kP, hkP, hkPi⟩ := Cond.selects_spec hsel
  cases hcls.symm.trans q1
  cases (State.methodFound?_of_named hnamed hy).symm.trans q2
  cases hnamed.symm.trans q3
  have hselP : selectMethod e.platform s.vm cellB.cls mk = .method mk := by rw [Launch.admits_selectMethod X.admits]; exact q4
  obtain ⟨vm₁, X₁, hstep₁⟩ := X.invokevirtual hexec hown hlink hnamed hmethM hstM hkP hkPi hy (a := b) (cell := cellB) hcell
    (fun z h => by rw [h] at hobj; cases hobj) hselP hmethM habM hkP hkPi (g := g) hg (argsL := argsL) (rest := rest) (hlen _ hsigM) hstack hdg
  obtain ⟨v, B, X', hpost, hsteps⟩ := hK m meth c ⟨T.setVm vm₁, locs, cells, slots⟩ { g with stack := rest } (.invokevirtual index) mk (Value.ref b :: argsL).toArray X₁ hg hsize hdg hW (X₁.named hnamed) (hpre vm₁ X₁.warmed)
  exact ⟨v, vm₁, B, X₁.warmed, X', hpost, fun target h => hstep₁ _ fun acts => by rw [doInvoke_state]; exact hsteps.trans h⟩
abbrev vx_CVW (R : Room) (s : State) (args : Array Value) (own C : String) (index : Nat) (y : MethodName) (bytes : ByteArray) (maxL : Nat) (ret : Option FieldType) (hh : List (Nat × Nat × Nat × Nat)) (ws : List Cond) (rm : Room) (mc ms n : Nat) : Prop :=
  (rm.cells = mc ∧ rm.slots = ms ∧ rm.frames + 1 ≤ R.frames ∧ 8 + (maxL + 11) + rm.locals ≤ R.locals ∧ (∀ w ∈ ws, ∀ (a' : Array Value) (U : State), s.WarmedH U.vm → w.before a' U = true) ∧ Cond.codeWith y bytes maxL ret hh ∈ ws) ∧
  (Cond.codeWith y bytes maxL ret hh).before args s = true ∧ (Cond.initialized y.cls).before args s = true ∧ (y.cls ≠ "java/lang/invoke/MethodHandle" ∧ y.cls ≠ "java/lang/invoke/VarHandle") ∧
  (∀ sig, parseMethodDescriptor y.desc = some sig → n = sig.parameters.length) ∧ (Cond.methodLink own index y).before args s = true ∧ (Cond.instanceMethod y).before args s = true ∧ (Cond.selects C y y).before args s = true
theorem vx_cwVW {own C : String} {index maxL mc ms : Nat} {y : MethodName} {bytes : ByteArray} {ret : Option FieldType} {hh : List (Nat × Nat × Nat × Nat)} {Ts ws ws' : List Cond} {rm : Room} (n : Nat) (ht : ∀ w ∈ Ts, w.before args s = true) (hT : GoodIn Ts (wsV own index C y ws)) (hw : ws = Cond.codeWith y bytes maxL ret hh :: ws') (hrc : rm.cells = mc) (hrs : rm.slots = ms)
    (hd : y.cls = C ∧ y.cls ≠ "java/lang/invoke/MethodHandle" ∧ y.cls ≠ "java/lang/invoke/VarHandle" ∧ (parseMethodDescriptor y.desc).map (fun d => d.parameters.length) = some n) (hR : rm.frames + 1 ≤ R.frames ∧ 8 + (maxL + 11) + rm.locals ≤ R.locals) :
    vx_CVW R s args own C index y bytes maxL ret hh ws rm mc ms n := by
  obtain ⟨hC, hd⟩ := hd
  subst hC
  have ok : ∀ w ∈ wsV own index y.cls y ws, w.before args s = true := fun w h => ht w (hT w h).1
  have hG : GoodIn Ts ws := fun w h => hT w (by unfold wsV; exact List.mem_append_right _ h)
  have hc : Cond.codeWith y bytes maxL ret hh ∈ ws := by rw [hw]; exact List.mem_cons_self
  refine ⟨⟨hrc, hrs, hR.1, hR.2, pay_in ht hG, hc⟩, ht _ (hG _ hc).1, ok _ (by simp [wsV]), ⟨hd.1, hd.2.1⟩, fun sig h => ?_, ok _ (by simp [wsV]), ok _ (by simp [wsV]), ok _ (by simp [wsV])⟩
  have h2 := hd.2.2
  rw [h] at h2
  exact (Option.some.inj h2).symm
theorem vx_runVW {y : MethodName} {bytes cc : ByteArray} {maxL nL mc ms n index : Nat} {ret : Option FieldType} {hh : List (Nat × Nat × Nat × Nat)} {ws : List Cond} {rm : Room} {Pc : Array Value → State → Prop} {Qc : Array Value → State → Outcome → State → Prop} {free : Addr → Prop} {Ts : List Cond} {own C : String} {b : Addr} {As rest : List Value} {g : JFrame}
    (S : CallFix p m c cc nL s args Ts own) (hM : Met l y ws rm Pc Qc mc ms free) (cw : vx_CVW R s args own C index y bytes maxL ret hh ws rm mc ms n) (hp : PreV s H C b Pc As)
    (hg : g.method = m) (hn : As.length = n) (hsize : g.locals.size = nL) (hstack : g.stack = As.reverse ++ .ref b :: rest) (hW : 2 * g.monitorRoom + (rest.map fun v => v.category).sum ≤ 8) (hdg : decode cc g.pc = .ok (.invokevirtual index, 3)) (hf : cells + mc ≤ R.cells ∧ slots + ms ≤ R.slots) :
    va_Run p l e R s m args below meth c H locs cells slots mc ms g rest (Qc (Value.ref b :: As).toArray) free := by
  obtain ⟨⟨hrc, hrs, hfr, hlo, hws, hcw⟩, hcode, hini, hy, hlen, hl, hin, hse⟩ := cw
  have hK : Back l R p e below s args y 3 8 (PreOf R mc ms Pc) (PostOf Qc mc ms free) := va_backW (hh := hh) (bytes := bytes) (maxL := maxL) (ret := ret) hM hp.1 hrc hrs hfr hlo hws hcw (fun a' U hW => word_at hW (Or.inl (by first | rfl | simp [Cond.onTables, Cond.keeps, Cond.steady])) hini)
  obtain ⟨hx, hb, hml, ho, -⟩ := S
  obtain ⟨-, ⟨cellB, hcB, hoB, hclB⟩, hPc⟩ := hp
  intro T hT X
  obtain ⟨v, vm₁, ⟨U', l2, c2, s2⟩, hW₁, X', ⟨g', mk, t, L, e1, e2, hq, h1, hL, h2, h3⟩, st⟩ := vx_callVW X hx (C := C) (hh := hh) (bytes := bytes) (maxL := maxL) (ret := ret) ho hl hin hse hcode hy hK (by rw [hT]; exact hcB) hoB hclB hg (hsize.trans hml.symm) (argsL := As) (rest := rest) (fun sig h => hn.trans (hlen sig h)) hstack hW (by rw [hb]; exact hdg)
    (fun vm₁ hW₁ => ⟨hf.1, hf.2, hPc (T.setVm vm₁) hT hW₁⟩)
  dsimp only [Pt.U, Pt.locs, Pt.cells, Pt.slots] at X' e1 e2 h1 h2 h3 st
  subst h1; subst h2; subst h3
  exact ⟨v, (T.setVm vm₁).calling g' mk (Value.ref b :: As).toArray, t, U', L, hT, X', hL, e1, e2, hq, st⟩
section
variable {y : MethodName} {bytes cc : ByteArray} {maxL nL mc ms n index : Nat} {ret : Option FieldType} {ws : List Cond} {rm : Room} {Pc : Array Value → State → Prop} {Qc : Array Value → State → Outcome → State → Prop} {XC : String → State → State → Prop} {free : Addr → Prop} {Ts : List Cond} {own C : String} {b : Addr} {As rest : List Value} {g : JFrame}
theorem vx_runVX {hh : List (Nat × Nat × Nat × Nat)} (S : CallFix p m c cc nL s args Ts own) (hM : vx_Met l y ws rm Pc Qc XC mc ms free) (cw : vx_CVW R s args own C index y bytes maxL ret hh ws rm mc ms n) (hp : PreV s H C b Pc As)
    (hg : g.method = m) (hn : As.length = n) (hsize : g.locals.size = nL) (hstack : g.stack = As.reverse ++ .ref b :: rest) (hW : 2 * g.monitorRoom + (rest.map fun v => v.category).sum ≤ 8) (hdg : decode cc g.pc = .ok (.invokevirtual index, 3)) (hf : cells + mc ≤ R.cells ∧ slots + ms ≤ R.slots) :
    vx_Run p l e R s m args below meth c H locs cells slots mc ms g rest (Qc (Value.ref b :: As).toArray) XC free := by
  obtain ⟨⟨hrc, hrs, hfr, hlo, hws, hcw⟩, hcode, hini, hy, hlen, hl, hin, hse⟩ := cw
  have hK : vx_Back l R p e below s args y 3 8 (PreOf R mc ms Pc) (PostOf Qc mc ms free) (vx_Post XC mc ms free) := vx_backW (hh := hh) (bytes := bytes) (maxL := maxL) (ret := ret) hM hp.1 hrc hrs hfr hlo hws hcw (fun a' U hW => word_at hW (Or.inl (by first | rfl | simp [Cond.onTables, Cond.keeps, Cond.steady])) hini)
  obtain ⟨hx, hb, hml, ho, -⟩ := S
  obtain ⟨-, ⟨cellB, hcB, hoB, hclB⟩, hPc⟩ := hp
  intro T hT X
  rcases vx_callVX X hx (C := C) (hh := hh) (bytes := bytes) (maxL := maxL) (ret := ret) ho hl hin hse hcode hy hK (by rw [hT]; exact hcB) hoB hclB hg (hsize.trans hml.symm) (argsL := As) (rest := rest) (fun sig h => hn.trans (hlen sig h)) hstack hW (by rw [hb]; exact hdg)
    (fun vm₁ hW₁ => ⟨hf.1, hf.2, hPc (T.setVm vm₁) hT hW₁⟩) with ⟨v, vm₁, ⟨U', l2, c2, s2⟩, hW₁, X', ⟨g', mk, t, L, e1, e2, hq, h1, hL, h2, h3⟩, st⟩ | ⟨q, vm₁, ⟨U', l2, c2, s2⟩, hW₁, X', ⟨g', mk, t, L, E, ce, e1, e2, hq, hce, hcv, hcl, h1, hL, h2, h3⟩, st⟩
  · dsimp only [Pt.U, Pt.locs, Pt.cells, Pt.slots] at X' e1 e2 h1 h2 h3 st
    subst h1; subst h2; subst h3
    exact Or.inl ⟨v, (T.setVm vm₁).calling g' mk (Value.ref b :: As).toArray, t, U', L, hT, X', hL, e1, e2, hq, st⟩
  · dsimp only [Pt.U, Pt.locs, Pt.cells, Pt.slots] at X' e1 e2 h1 h2 h3 st hcl
    subst h1; subst h2; subst h3
    exact Or.inr ⟨q, (T.setVm vm₁).calling g' mk (Value.ref b :: As).toArray, t, U', L, E, ce, hT, X', hL, e1, e2, hq, hce, hcv, vx_cls hW₁ hcl, st⟩
theorem vx_runSX {hh : List (Nat × Nat × Nat × Nat)} (S : CallFix p m c cc nL s args Ts own) (hM : vx_Met l y ws rm Pc Qc XC mc ms free) (cw : vx_CSW R s args own index y bytes maxL ret hh ws rm mc ms n) (hp : PreS s H Pc As)
    (hg : g.method = m) (hn : As.length = n) (hsize : g.locals.size = nL) (hstack : g.stack = As.reverse ++ rest) (hW : 2 * g.monitorRoom + (rest.map fun v => v.category).sum ≤ 8) (hdg : decode cc g.pc = .ok (.invokestatic index, 3)) (hf : cells + mc ≤ R.cells ∧ slots + ms ≤ R.slots) :
    vx_Run p l e R s m args below meth c H locs cells slots mc ms g rest (Qc As.toArray) XC free := by
  obtain ⟨⟨hrc, hrs, hfr, hlo, hws, hcw⟩, hcode, hini, hy, hlen, hl, hstt⟩ := cw
  have hK : vx_Back l R p e below s args y 3 8 (PreOf R mc ms Pc) (PostOf Qc mc ms free) (vx_Post XC mc ms free) := vx_backW (hh := hh) (bytes := bytes) (maxL := maxL) (ret := ret) hM hp.1 hrc hrs hfr hlo hws hcw (fun a' U hW => word_at hW (Or.inl (by first | rfl | simp [Cond.onTables, Cond.keeps, Cond.steady])) hini)
  obtain ⟨hx, hb, hml, ho, -⟩ := S
  intro T hT X
  rcases vx_callSX X hx (hh := hh) (bytes := bytes) (maxL := maxL) (ret := ret) ho hl hstt hini hcode hy hK hg (hsize.trans hml.symm) (argsL := As) (rest := rest) (fun sig h => hn.trans (hlen sig h)) hstack hW (by rw [hb]; exact hdg)
    (fun vm₁ hW₁ => ⟨hf.1, hf.2, hp.2 (T.setVm vm₁) hT hW₁⟩) with ⟨v, vm₁, ⟨U', l2, c2, s2⟩, hW₁, X', ⟨g', mk, t, L, e1, e2, hq, h1, hL, h2, h3⟩, st⟩ | ⟨q, vm₁, ⟨U', l2, c2, s2⟩, hW₁, X', ⟨g', mk, t, L, E, ce, e1, e2, hq, hce, hcv, hcl, h1, hL, h2, h3⟩, st⟩
  · dsimp only [Pt.U, Pt.locs, Pt.cells, Pt.slots] at X' e1 e2 h1 h2 h3 st
    subst h1; subst h2; subst h3
    exact Or.inl ⟨v, (T.setVm vm₁).calling g' mk As.toArray, t, U', L, hT, X', hL, e1, e2, hq, st⟩
  · dsimp only [Pt.U, Pt.locs, Pt.cells, Pt.slots] at X' e1 e2 h1 h2 h3 st hcl
    subst h1; subst h2; subst h3
    exact Or.inr ⟨q, (T.setVm vm₁).calling g' mk As.toArray, t, U', L, E, ce, hT, X', hL, e1, e2, hq, hce, hcv, vx_cls hW₁ hcl, st⟩
end
end VXH
theorem vx_ofWH {l : Launch} {y : MethodName} {ws ws' : List Cond} {rm : Room} {Pc : Array Value → State → Prop} {Qc : Array Value → State → Outcome → State → Prop} {XC : String → State → State → Prop} {mc ms : Nat} {free : Addr → Prop} {cc : ByteArray} {maxL : Nat} {ret : Option FieldType} {hh : List (Nat × Nat × Nat × Nat)}
    (hy : plainName y.cls = true) (hw : ws = Cond.codeWith y cc maxL ret hh :: ws')
    (body : ∀ p e s m args below meth c s₁, BodyLoose p l y (headSpec ws rm) cc maxL ret e s m args below meth c s₁ → c.maxLocals = maxL → Pc args s →
      W p l e (headSpec ws rm).room s m args below meth c s.heap [] 0 0 (vx_MQ below Qc XC args s mc ms free) (entryFrame m args maxL)) : vx_Met l y ws rm Pc Qc XC mc ms free := by
  refine MetFree.of_bodyS (code := cc) (maxLocals := maxL) (ret := ret) hy ?_ ?_
  · intro args s m h hn
    obtain ⟨m9, meth, c, hn9, h1, h2, h3, h4, -, h5, h6, -⟩ := Cond.codeWith_spec (atoms_spec (ws := ws) h _ (by rw [hw]; exact List.mem_cons_self))
    cases hn.symm.trans hn9
    exact ⟨meth, c, h1, h2, h3, h4, h5, h6⟩
  · intro p e s m args below meth c s₁ B hml hP _
    have hh0 : s₁.heap = s.heap := by rw [B.state]; rfl
    obtain ⟨t, a1, o, b1, b2, b3⟩ := body p e s m args below meth c s₁ B hml hP s₁ hh0 (Stand.of_body B)
    exact ⟨t, o, a1, b1, b2, b3⟩
/-! ===== END ===== -/
end
section
/-! ===== BEGIN printed: names, fields, word lists, decode rows ===== -/
def RX0 : String := "PlaneFaces$Faces"
def TX0 : u_T := fun k => match k with
  | 0 => ("PlaneFaces$Faces", "rounds", "LPlaneFaces$Rounds;", true)
  | 1 => ("PlaneFaces$Faces", "segments", "LPlaneFaces$Segments;", true)
  | 2 => ("PlaneFaces$Faces", "home", "[I", true)
  | 3 => ("PlaneFaces$Faces", "number", "[I", true)
  | 4 => ("PlaneFaces$Faces", "faceOf", "[I", true)
  | 5 => ("PlaneFaces$Faces", "outside", "[I", true)
  | 6 => ("PlaneFaces$Faces", "steps", "[I", true)
  | _ => ("PlaneFaces$Faces", "size", "I", false)
def tyX0 : Nat → FieldType := fun k => match k with
  | 0 => .object "PlaneFaces$Rounds"
  | 1 => .object "PlaneFaces$Segments"
  | 2 => .array .int
  | 3 => .array .int
  | 4 => .array .int
  | 5 => .array .int
  | 6 => .array .int
  | _ => .int
abbrev wsX00 : List Cond := u_ws RX0 TX0 8
theorem nmX0 : ∀ a, a < 8 → ∀ b, b < 8 → a ≠ b → (TX0 a).2.1 ≠ (TX0 b).2.1 := by decide +kernel
theorem tyX0_ok : ∀ k, k < 8 → parseFieldDescriptor (TX0 k).2.2.1 = some (tyX0 k) := by decide +kernel
abbrev cX0_init : ByteArray := prog_2_method_1_code
def yX0_init : MethodName := ⟨RX0, "<init>", "()V"⟩
abbrev cX0_settle : ByteArray := prog_2_method_2_code
def yX0_settle : MethodName := ⟨RX0, "settle", "()V"⟩
abbrev cX0_findHomes : ByteArray := prog_2_method_3_code
def yX0_findHomes : MethodName := ⟨RX0, "findHomes", "()V"⟩
abbrev cX0_numberFaces : ByteArray := prog_2_method_4_code
def yX0_numberFaces : MethodName := ⟨RX0, "numberFaces", "()V"⟩
abbrev cX0_faceWithin : ByteArray := prog_2_method_5_code
def yX0_faceWithin : MethodName := ⟨RX0, "faceWithin", "(I)I"⟩
abbrev cX0_bridges : ByteArray := prog_2_method_6_code
def yX0_bridges : MethodName := ⟨RX0, "bridges", "()I"⟩
abbrev cX0_twiceArea : ByteArray := prog_2_method_7_code
def yX0_twiceArea : MethodName := ⟨RX0, "twiceArea", "(I)J"⟩
abbrev cX0_roundsOf : ByteArray := prog_2_method_8_code
def yX0_roundsOf : MethodName := ⟨RX0, "roundsOf", "(I)I"⟩
abbrev cX0_halvesOf : ByteArray := prog_2_method_9_code
def yX0_halvesOf : MethodName := ⟨RX0, "halvesOf", "(I)I"⟩
abbrev cX0_leastHalfOf : ByteArray := prog_2_method_10_code
def yX0_leastHalfOf : MethodName := ⟨RX0, "leastHalfOf", "(I)I"⟩
abbrev cX0_piecesIn : ByteArray := prog_2_method_11_code
def yX0_piecesIn : MethodName := ⟨RX0, "piecesIn", "(I)I"⟩
abbrev cX0_crossings : ByteArray := prog_2_method_12_code
def yX0_crossings : MethodName := ⟨RX0, "crossings", "(II)I"⟩
abbrev cX0_cross : ByteArray := prog_2_method_13_code
def yX0_cross : MethodName := ⟨RX0, "cross", "(III)V"⟩
def RX1 : String := "PlaneFaces$Rounds"
def TX1 : u_T := fun k => match k with
  | 0 => ("PlaneFaces$Rounds", "segments", "LPlaneFaces$Segments;", true)
  | 1 => ("PlaneFaces$Rounds", "corner", "[I", true)
  | 2 => ("PlaneFaces$Rounds", "following", "[I", true)
  | 3 => ("PlaneFaces$Rounds", "root", "[I", true)
  | 4 => ("PlaneFaces$Rounds", "pieceOf", "[I", true)
  | 5 => ("PlaneFaces$Rounds", "pieces", "I", false)
  | 6 => ("PlaneFaces$Rounds", "roundOf", "[I", true)
  | 7 => ("PlaneFaces$Rounds", "start", "[I", true)
  | 8 => ("PlaneFaces$Rounds", "twice", "[J", true)
  | 9 => ("PlaneFaces$Rounds", "odd", "[I", true)
  | _ => ("PlaneFaces$Rounds", "size", "I", false)
def tyX1 : Nat → FieldType := fun k => match k with
  | 0 => .object "PlaneFaces$Segments"
  | 1 => .array .int
  | 2 => .array .int
  | 3 => .array .int
  | 4 => .array .int
  | 5 => .int
  | 6 => .array .int
  | 7 => .array .int
  | 8 => .array .long
  | 9 => .array .int
  | _ => .int
abbrev wsX10 : List Cond := u_ws RX1 TX1 11
theorem nmX1 : ∀ a, a < 11 → ∀ b, b < 11 → a ≠ b → (TX1 a).2.1 ≠ (TX1 b).2.1 := by decide +kernel
theorem tyX1_ok : ∀ k, k < 11 → parseFieldDescriptor (TX1 k).2.2.1 = some (tyX1 k) := by decide +kernel
abbrev cX1_init : ByteArray := prog_3_method_1_code
def yX1_init : MethodName := ⟨RX1, "<init>", "()V"⟩
abbrev cX1_trace : ByteArray := prog_3_method_2_code
def yX1_trace : MethodName := ⟨RX1, "trace", "()V"⟩
abbrev cX1_findCorners : ByteArray := prog_3_method_3_code
def yX1_findCorners : MethodName := ⟨RX1, "findCorners", "()V"⟩
abbrev cX1_corners : ByteArray := prog_3_method_4_code
def yX1_corners : MethodName := ⟨RX1, "corners", "()I"⟩
abbrev cX1_firstClockwise : ByteArray := prog_3_method_5_code
def yX1_firstClockwise : MethodName := ⟨RX1, "firstClockwise", "(I)I"⟩
abbrev cX1_joinPieces : ByteArray := prog_3_method_6_code
def yX1_joinPieces : MethodName := ⟨RX1, "joinPieces", "()V"⟩
abbrev cX1_joinRoots : ByteArray := prog_3_method_7_code
def yX1_joinRoots : MethodName := ⟨RX1, "joinRoots", "(II)V"⟩
abbrev cX1_numberPieces : ByteArray := prog_3_method_8_code
def yX1_numberPieces : MethodName := ⟨RX1, "numberPieces", "()V"⟩
abbrev cX1_walkRounds : ByteArray := prog_3_method_9_code
def yX1_walkRounds : MethodName := ⟨RX1, "walkRounds", "()V"⟩
abbrev cX1_walk : ByteArray := prog_3_method_10_code
def yX1_walk : MethodName := ⟨RX1, "walk", "(I)V"⟩
abbrev cX1_pieceOfRound : ByteArray := prog_3_method_11_code
def yX1_pieceOfRound : MethodName := ⟨RX1, "pieceOfRound", "(I)I"⟩
abbrev cX1_enclosing : ByteArray := prog_3_method_12_code
def yX1_enclosing : MethodName := ⟨RX1, "enclosing", "(III)I"⟩
abbrev cX1_markOddRounds : ByteArray := prog_3_method_13_code
def yX1_markOddRounds : MethodName := ⟨RX1, "markOddRounds", "(II)V"⟩
def RX2 : String := "PlaneFaces$Segments"
def TX2 : u_T := fun k => match k with
  | 0 => ("PlaneFaces$Segments", "x", "[I", true)
  | 1 => ("PlaneFaces$Segments", "y", "[I", true)
  | 2 => ("PlaneFaces$Segments", "used", "[Z", true)
  | _ => ("PlaneFaces$Segments", "size", "I", false)
def tyX2 : Nat → FieldType := fun k => match k with
  | 0 => .array .int
  | 1 => .array .int
  | 2 => .array .boolean
  | _ => .int
abbrev wsX20 : List Cond := u_ws RX2 TX2 4
theorem nmX2 : ∀ a, a < 4 → ∀ b, b < 4 → a ≠ b → (TX2 a).2.1 ≠ (TX2 b).2.1 := by decide +kernel
theorem tyX2_ok : ∀ k, k < 4 → parseFieldDescriptor (TX2 k).2.2.1 = some (tyX2 k) := by decide +kernel
abbrev cX2_init : ByteArray := prog_4_method_1_code
def yX2_init : MethodName := ⟨RX2, "<init>", "()V"⟩
abbrev cX2_has : ByteArray := prog_4_method_2_code
def yX2_has : MethodName := ⟨RX2, "has", "(I)Z"⟩
abbrev cX2_leastFree : ByteArray := prog_4_method_3_code
def yX2_leastFree : MethodName := ⟨RX2, "leastFree", "()I"⟩
abbrev cX2_draw : ByteArray := prog_4_method_4_code
def yX2_draw : MethodName := ⟨RX2, "draw", "(IIIII)V"⟩
abbrev cX2_keep : ByteArray := prog_4_method_5_code
def yX2_keep : MethodName := ⟨RX2, "keep", "(I)V"⟩
abbrev cX2_drop : ByteArray := prog_4_method_6_code
def yX2_drop : MethodName := ⟨RX2, "drop", "(I)V"⟩
abbrev cX2_dropAll : ByteArray := prog_4_method_7_code
def yX2_dropAll : MethodName := ⟨RX2, "dropAll", "()V"⟩
abbrev cX2_clashes : ByteArray := prog_4_method_8_code
def yX2_clashes : MethodName := ⟨RX2, "clashes", "(I)Z"⟩
abbrev cX2_touches : ByteArray := prog_4_method_9_code
def yX2_touches : MethodName := ⟨RX2, "touches", "(II)Z"⟩
abbrev cX2_sameEnds : ByteArray := prog_4_method_10_code
def yX2_sameEnds : MethodName := ⟨RX2, "sameEnds", "(II)Z"⟩
abbrev cX2_crosses : ByteArray := prog_4_method_11_code
def yX2_crosses : MethodName := ⟨RX2, "crosses", "(II)Z"⟩
abbrev cX2_parts : ByteArray := prog_4_method_12_code
def yX2_parts : MethodName := ⟨RX2, "parts", "(II)Z"⟩
abbrev cX2_sameBegin : ByteArray := prog_4_method_13_code
def yX2_sameBegin : MethodName := ⟨RX2, "sameBegin", "(II)Z"⟩
abbrev cX2_side : ByteArray := prog_4_method_14_code
def yX2_side : MethodName := ⟨RX2, "side", "(III)J"⟩
abbrev cX2_holds : ByteArray := prog_4_method_15_code
def yX2_holds : MethodName := ⟨RX2, "holds", "(III)Z"⟩
abbrev cX2_leastHalfAt : ByteArray := prog_4_method_16_code
def yX2_leastHalfAt : MethodName := ⟨RX2, "leastHalfAt", "(II)I"⟩
abbrev cX2_segmentThrough : ByteArray := prog_4_method_17_code
def yX2_segmentThrough : MethodName := ⟨RX2, "segmentThrough", "(II)I"⟩
abbrev cX2_turn : ByteArray := prog_4_method_18_code
def yX2_turn : MethodName := ⟨RX2, "turn", "(II)J"⟩
abbrev cX2_sooner : ByteArray := prog_4_method_19_code
def yX2_sooner : MethodName := ⟨RX2, "sooner", "(III)Z"⟩
abbrev cX2_signOf : ByteArray := prog_4_method_20_code
def yX2_signOf : MethodName := ⟨RX2, "signOf", "(J)I"⟩
abbrev cX2_sweep : ByteArray := prog_4_method_21_code
def yX2_sweep : MethodName := ⟨RX2, "sweep", "(I)J"⟩
abbrev cX2_rightward : ByteArray := prog_4_method_22_code
def yX2_rightward : MethodName := ⟨RX2, "rightward", "(I)I"⟩
abbrev cX2_roofs : ByteArray := prog_4_method_23_code
def yX2_roofs : MethodName := ⟨RX2, "roofs", "(III)Z"⟩
abbrev cX2_firstUpFrom : ByteArray := prog_4_method_24_code
def yX2_firstUpFrom : MethodName := ⟨RX2, "firstUpFrom", "(II)I"⟩
abbrev cX2_reachesAbove : ByteArray := prog_4_method_25_code
def yX2_reachesAbove : MethodName := ⟨RX2, "reachesAbove", "(III)Z"⟩
abbrev cX2_height : ByteArray := prog_4_method_26_code
def yX2_height : MethodName := ⟨RX2, "height", "(III)J"⟩
abbrev cX2_width : ByteArray := prog_4_method_27_code
def yX2_width : MethodName := ⟨RX2, "width", "(I)J"⟩
def RX3 : String := "PlaneFaces"
def TX3 : u_T := fun k => match k with
  | 0 => ("PlaneFaces", "segments", "LPlaneFaces$Segments;", true)
  | 1 => ("PlaneFaces", "rounds", "LPlaneFaces$Rounds;", true)
  | 2 => ("PlaneFaces", "faces", "LPlaneFaces$Faces;", true)
  | _ => ("PlaneFaces", "stale", "Z", false)
def tyX3 : Nat → FieldType := fun k => match k with
  | 0 => .object "PlaneFaces$Segments"
  | 1 => .object "PlaneFaces$Rounds"
  | 2 => .object "PlaneFaces$Faces"
  | _ => .boolean
abbrev wsX30 : List Cond := u_ws RX3 TX3 4
theorem nmX3 : ∀ a, a < 4 → ∀ b, b < 4 → a ≠ b → (TX3 a).2.1 ≠ (TX3 b).2.1 := by decide +kernel
theorem tyX3_ok : ∀ k, k < 4 → parseFieldDescriptor (TX3 k).2.2.1 = some (tyX3 k) := by decide +kernel
abbrev cX3_init : ByteArray := prog_1_method_1_code
def yX3_init : MethodName := ⟨RX3, "<init>", "()V"⟩
abbrev cX3_add : ByteArray := prog_1_method_2_code
def yX3_add : MethodName := ⟨RX3, "add", "(IIII)I"⟩
abbrev cX3_remove : ByteArray := prog_1_method_3_code
def yX3_remove : MethodName := ⟨RX3, "remove", "(I)Z"⟩
abbrev cX3_clear : ByteArray := prog_1_method_4_code
def yX3_clear : MethodName := ⟨RX3, "clear", "()I"⟩
abbrev cX3_count : ByteArray := prog_1_method_5_code
def yX3_count : MethodName := ⟨RX3, "count", "(I)I"⟩
abbrev cX3_begins : ByteArray := prog_1_method_6_code
def yX3_begins : MethodName := ⟨RX3, "begins", "(IZ)I"⟩
abbrev cX3_next : ByteArray := prog_1_method_7_code
def yX3_next : MethodName := ⟨RX3, "next", "(I)I"⟩
abbrev cX3_face : ByteArray := prog_1_method_8_code
def yX3_face : MethodName := ⟨RX3, "face", "(I)I"⟩
abbrev cX3_piece : ByteArray := prog_1_method_9_code
def yX3_piece : MethodName := ⟨RX3, "piece", "(I)I"⟩
abbrev cX3_around : ByteArray := prog_1_method_10_code
def yX3_around : MethodName := ⟨RX3, "around", "(I)I"⟩
abbrev cX3_area : ByteArray := prog_1_method_11_code
def yX3_area : MethodName := ⟨RX3, "area", "(I)I"⟩
abbrev cX3_border : ByteArray := prog_1_method_12_code
def yX3_border : MethodName := ⟨RX3, "border", "(II)I"⟩
abbrev cX3_locate : ByteArray := prog_1_method_13_code
def yX3_locate : MethodName := ⟨RX3, "locate", "(II)I"⟩
abbrev cX3_above : ByteArray := prog_1_method_14_code
def yX3_above : MethodName := ⟨RX3, "above", "(II)I"⟩
abbrev cX3_across : ByteArray := prog_1_method_15_code
def yX3_across : MethodName := ⟨RX3, "across", "(II)I"⟩
abbrev cX3_refresh : ByteArray := prog_1_method_16_code
def yX3_refresh : MethodName := ⟨RX3, "refresh", "()V"⟩
abbrev cX3_requireHalf : ByteArray := prog_1_method_17_code
def yX3_requireHalf : MethodName := ⟨RX3, "requireHalf", "(I)V"⟩
abbrev cX3_requireFace : ByteArray := prog_1_method_18_code
def yX3_requireFace : MethodName := ⟨RX3, "requireFace", "(I)V"⟩
abbrev cX3_requirePlace : ByteArray := prog_1_method_19_code
def yX3_requirePlace : MethodName := ⟨RX3, "requirePlace", "(II)V"⟩
def RX4 : String := "PlaneFacesModel"
def TX4 : u_T := fun k => match k with
  | 0 => ("PlaneFacesModel", "refusal", "I", false)
  | 1 => ("PlaneFacesModel", "isThere", "[Z", true)
  | 2 => ("PlaneFacesModel", "xs", "[I", true)
  | 3 => ("PlaneFacesModel", "ys", "[I", true)
  | 4 => ("PlaneFacesModel", "isCurrent", "Z", false)
  | 5 => ("PlaneFacesModel", "nexts", "[I", true)
  | 6 => ("PlaneFacesModel", "pieceOf", "[I", true)
  | 7 => ("PlaneFacesModel", "pieces", "I", false)
  | 8 => ("PlaneFacesModel", "rounds", "I", false)
  | 9 => ("PlaneFacesModel", "roundOf", "[I", true)
  | 10 => ("PlaneFacesModel", "firsts", "[I", true)
  | 11 => ("PlaneFacesModel", "areas", "[J", true)
  | 12 => ("PlaneFacesModel", "faces", "I", false)
  | 13 => ("PlaneFacesModel", "faceOf", "[I", true)
  | 14 => ("PlaneFacesModel", "numbers", "[I", true)
  | _ => ("PlaneFacesModel", "steps", "[I", true)
def tyX4 : Nat → FieldType := fun k => match k with
  | 0 => .int
  | 1 => .array .boolean
  | 2 => .array .int
  | 3 => .array .int
  | 4 => .boolean
  | 5 => .array .int
  | 6 => .array .int
  | 7 => .int
  | 8 => .int
  | 9 => .array .int
  | 10 => .array .int
  | 11 => .array .long
  | 12 => .int
  | 13 => .array .int
  | 14 => .array .int
  | _ => .array .int
abbrev wsX40 : List Cond := u_ws RX4 TX4 16
theorem nmX4 : ∀ a, a < 16 → ∀ b, b < 16 → a ≠ b → (TX4 a).2.1 ≠ (TX4 b).2.1 := by decide +kernel
theorem tyX4_ok : ∀ k, k < 16 → parseFieldDescriptor (TX4 k).2.2.1 = some (tyX4 k) := by decide +kernel
abbrev cX4_init : ByteArray := prog_6_method_1_code
def yX4_init : MethodName := ⟨RX4, "<init>", "()V"⟩
abbrev cX4_thrown : ByteArray := prog_6_method_2_code
def yX4_thrown : MethodName := ⟨RX4, "thrown", "()I"⟩
abbrev cX4_refused : ByteArray := prog_6_method_3_code
def yX4_refused : MethodName := ⟨RX4, "refused", "(I)Z"⟩
abbrev cX4_isIn : ByteArray := prog_6_method_4_code
def yX4_isIn : MethodName := ⟨RX4, "isIn", "(I)Z"⟩
abbrev cX4_sign : ByteArray := prog_6_method_5_code
def yX4_sign : MethodName := ⟨RX4, "sign", "(J)I"⟩
abbrev cX4_side : ByteArray := prog_6_method_6_code
def yX4_side : MethodName := ⟨RX4, "side", "(IIIIII)I"⟩
abbrev cX4_isOn : ByteArray := prog_6_method_7_code
def yX4_isOn : MethodName := ⟨RX4, "isOn", "(IIIIII)Z"⟩
abbrev cX4_isEnd : ByteArray := prog_6_method_8_code
def yX4_isEnd : MethodName := ⟨RX4, "isEnd", "(III)Z"⟩
abbrev cX4_meets : ByteArray := prog_6_method_9_code
def yX4_meets : MethodName := ⟨RX4, "meets", "(IIIII)Z"⟩
abbrev cX4_add : ByteArray := prog_6_method_10_code
def yX4_add : MethodName := ⟨RX4, "add", "(IIII)I"⟩
abbrev cX4_remove : ByteArray := prog_6_method_11_code
def yX4_remove : MethodName := ⟨RX4, "remove", "(I)Z"⟩
abbrev cX4_clear : ByteArray := prog_6_method_12_code
def yX4_clear : MethodName := ⟨RX4, "clear", "()I"⟩
abbrev cX4_isHalf : ByteArray := prog_6_method_13_code
def yX4_isHalf : MethodName := ⟨RX4, "isHalf", "(I)Z"⟩
abbrev cX4_back : ByteArray := prog_6_method_14_code
def yX4_back : MethodName := ⟨RX4, "back", "(I)I"⟩
abbrev cX4_leaves : ByteArray := prog_6_method_15_code
def yX4_leaves : MethodName := ⟨RX4, "leaves", "(III)Z"⟩
abbrev cX4_crossOf : ByteArray := prog_6_method_16_code
def yX4_crossOf : MethodName := ⟨RX4, "crossOf", "(II)J"⟩
abbrev cX4_turned : ByteArray := prog_6_method_17_code
def yX4_turned : MethodName := ⟨RX4, "turned", "(II)I"⟩
abbrev cX4_nextOf : ByteArray := prog_6_method_18_code
def yX4_nextOf : MethodName := ⟨RX4, "nextOf", "(I)I"⟩
abbrev cX4_spreadPiece : ByteArray := prog_6_method_19_code
def yX4_spreadPiece : MethodName := ⟨RX4, "spreadPiece", "(II)V"⟩
abbrev cX4_makeRound : ByteArray := prog_6_method_20_code
def yX4_makeRound : MethodName := ⟨RX4, "makeRound", "(I)V"⟩
abbrev cX4_isWithin : ByteArray := prog_6_method_21_code
def yX4_isWithin : MethodName := ⟨RX4, "isWithin", "(III)Z"⟩
abbrev cX4_least : ByteArray := prog_6_method_22_code
def yX4_least : MethodName := ⟨RX4, "least", "(III)I"⟩
abbrev cX4_make : ByteArray := prog_6_method_23_code
def yX4_make : MethodName := ⟨RX4, "make", "()V"⟩
abbrev cX4_number : ByteArray := prog_6_method_24_code
def yX4_number : MethodName := ⟨RX4, "number", "()V"⟩
abbrev cX4_left : ByteArray := prog_6_method_25_code
def yX4_left : MethodName := ⟨RX4, "left", "(I)I"⟩
abbrev cX4_count : ByteArray := prog_6_method_26_code
def yX4_count : MethodName := ⟨RX4, "count", "(I)I"⟩
abbrev cX4_begins : ByteArray := prog_6_method_27_code
def yX4_begins : MethodName := ⟨RX4, "begins", "(IZ)I"⟩
abbrev cX4_next : ByteArray := prog_6_method_28_code
def yX4_next : MethodName := ⟨RX4, "next", "(I)I"⟩
abbrev cX4_face : ByteArray := prog_6_method_29_code
def yX4_face : MethodName := ⟨RX4, "face", "(I)I"⟩
abbrev cX4_piece : ByteArray := prog_6_method_30_code
def yX4_piece : MethodName := ⟨RX4, "piece", "(I)I"⟩
abbrev cX4_outer : ByteArray := prog_6_method_31_code
def yX4_outer : MethodName := ⟨RX4, "outer", "(I)I"⟩
abbrev cX4_around : ByteArray := prog_6_method_32_code
def yX4_around : MethodName := ⟨RX4, "around", "(I)I"⟩
abbrev cX4_isFace : ByteArray := prog_6_method_33_code
def yX4_isFace : MethodName := ⟨RX4, "isFace", "(I)Z"⟩
abbrev cX4_area : ByteArray := prog_6_method_34_code
def yX4_area : MethodName := ⟨RX4, "area", "(I)I"⟩
abbrev cX4_border : ByteArray := prog_6_method_35_code
def yX4_border : MethodName := ⟨RX4, "border", "(II)I"⟩
abbrev cX4_locate : ByteArray := prog_6_method_36_code
def yX4_locate : MethodName := ⟨RX4, "locate", "(II)I"⟩
abbrev cX4_height : ByteArray := prog_6_method_37_code
def yX4_height : MethodName := ⟨RX4, "height", "(III)J"⟩
abbrev cX4_width : ByteArray := prog_6_method_38_code
def yX4_width : MethodName := ⟨RX4, "width", "(I)J"⟩
abbrev cX4_isMet : ByteArray := prog_6_method_39_code
def yX4_isMet : MethodName := ⟨RX4, "isMet", "(III)Z"⟩
abbrev cX4_above : ByteArray := prog_6_method_40_code
def yX4_above : MethodName := ⟨RX4, "above", "(II)I"⟩
abbrev cX4_across : ByteArray := prog_6_method_41_code
def yX4_across : MethodName := ⟨RX4, "across", "(II)I"⟩
def RJ9 : String := "java/lang/Math"
def TJ9 : u_T := fun k => match k with
  | _ => ("", "", "", false)
def tyJ9 : Nat → FieldType := fun k => match k with
  | _ => .int
abbrev wsJ90 : List Cond := u_ws RJ9 TJ9 0
theorem nmJ9 : ∀ a, a < 0 → ∀ b, b < 0 → a ≠ b → (TJ9 a).2.1 ≠ (TJ9 b).2.1 := by decide +kernel
theorem tyJ9_ok : ∀ k, k < 0 → parseFieldDescriptor (TJ9 k).2.2.1 = some (tyJ9 k) := by decide +kernel
abbrev cJ9_abs_0f7a4 : ByteArray := prog_11_method_59_code
def yJ9_abs_0f7a4 : MethodName := ⟨RJ9, "abs", "(I)I"⟩
abbrev cJ9_max_7cf53 : ByteArray := prog_11_method_65_code
def yJ9_max_7cf53 : MethodName := ⟨RJ9, "max", "(II)I"⟩
abbrev cJ9_min_7cf53 : ByteArray := prog_11_method_69_code
def yJ9_min_7cf53 : MethodName := ⟨RJ9, "min", "(II)I"⟩
def RJ0 : String := "java/lang/String"
def TJ0 : u_T := fun k => match k with
  | _ => ("", "", "", false)
def tyJ0 : Nat → FieldType := fun k => match k with
  | _ => .int
abbrev wsJ00 : List Cond := u_ws RJ0 TJ0 0
theorem nmJ0 : ∀ a, a < 0 → ∀ b, b < 0 → a ≠ b → (TJ0 a).2.1 ≠ (TJ0 b).2.1 := by decide +kernel
theorem tyJ0_ok : ∀ k, k < 0 → parseFieldDescriptor (TJ0 k).2.2.1 = some (tyJ0 k) := by decide +kernel
def RJ7 : String := "java/util/Arrays"
def TJ7 : u_T := fun k => match k with
  | _ => ("", "", "", false)
def tyJ7 : Nat → FieldType := fun k => match k with
  | _ => .int
abbrev wsJ70 : List Cond := u_ws RJ7 TJ7 0
theorem nmJ7 : ∀ a, a < 0 → ∀ b, b < 0 → a ≠ b → (TJ7 a).2.1 ≠ (TJ7 b).2.1 := by decide +kernel
theorem tyJ7_ok : ∀ k, k < 0 → parseFieldDescriptor (TJ7 k).2.2.1 = some (tyJ7 k) := by decide +kernel
abbrev cJ7_fill_53178 : ByteArray := prog_15_method_103_code
def yJ7_fill_53178 : MethodName := ⟨RJ7, "fill", "([II)V"⟩
def RL : String := "PlaneFacesLaw"
abbrev cL_add : ByteArray := method_3_code
def yL_add : MethodName := ⟨RL, "add", "(LPlaneFaces;IIII[J)I"⟩
abbrev cL_begins : ByteArray := method_4_code
def yL_begins : MethodName := ⟨RL, "begins", "(LPlaneFaces;IZ[J)I"⟩
abbrev cL_next : ByteArray := method_5_code
def yL_next : MethodName := ⟨RL, "next", "(LPlaneFaces;I[J)I"⟩
abbrev cL_face : ByteArray := method_6_code
def yL_face : MethodName := ⟨RL, "face", "(LPlaneFaces;I[J)I"⟩
abbrev cL_piece : ByteArray := method_7_code
def yL_piece : MethodName := ⟨RL, "piece", "(LPlaneFaces;I[J)I"⟩
abbrev cL_around : ByteArray := method_8_code
def yL_around : MethodName := ⟨RL, "around", "(LPlaneFaces;I[J)I"⟩
abbrev cL_area : ByteArray := method_9_code
def yL_area : MethodName := ⟨RL, "area", "(LPlaneFaces;I[J)I"⟩
abbrev cL_border : ByteArray := method_10_code
def yL_border : MethodName := ⟨RL, "border", "(LPlaneFaces;II[J)I"⟩
abbrev cL_locate : ByteArray := method_11_code
def yL_locate : MethodName := ⟨RL, "locate", "(LPlaneFaces;II[J)I"⟩
abbrev cL_above : ByteArray := method_12_code
def yL_above : MethodName := ⟨RL, "above", "(LPlaneFaces;II[J)I"⟩
abbrev cL_across : ByteArray := method_13_code
def yL_across : MethodName := ⟨RL, "across", "(LPlaneFaces;II[J)I"⟩
abbrev cL_law : ByteArray := code
def yL_law : MethodName := ⟨RL, "law", "([I)Z"⟩
def wsX2_init : List Cond := .code yX2_init cX2_init 1 none :: ([.methodLink RX2 3 objectInit, .instanceMethod objectInit, .code objectInit ⟨#[0xb1]⟩ 1 none, .arrayClass .int, .fieldLink RX2 9 "PlaneFaces$Segments" "x" "[I", .fieldLink RX2 15 "PlaneFaces$Segments" "y" "[I", .arrayClass .boolean, .fieldLink RX2 18 "PlaneFaces$Segments" "used" "[Z", .fieldLink RX2 22 "PlaneFaces$Segments" "size" "I"] ++ wsX20)
def wsX1_init_r1 : List Cond := [Cond.methodLink RX1 3 objectInit, Cond.instanceMethod objectInit, Cond.code objectInit ⟨#[0xb1]⟩ 1 none, Cond.classLink RX1 9 RX2, Cond.instantiable RX2 4, Cond.initialized RX2, Cond.fieldLink RX1 12 "PlaneFaces$Rounds" "segments" "LPlaneFaces$Segments;", Cond.arrayClass .int, Cond.fieldLink RX1 18 "PlaneFaces$Rounds" "corner" "[I", Cond.fieldLink RX1 22 "PlaneFaces$Rounds" "following" "[I", Cond.fieldLink RX1 25 "PlaneFaces$Rounds" "root" "[I", Cond.fieldLink RX1 28 "PlaneFaces$Rounds" "pieceOf" "[I", Cond.fieldLink RX1 31 "PlaneFaces$Rounds" "pieces" "I", Cond.fieldLink RX1 35 "PlaneFaces$Rounds" "roundOf" "[I", Cond.fieldLink RX1 38 "PlaneFaces$Rounds" "start" "[I", Cond.arrayClass .long, Cond.fieldLink RX1 41 "PlaneFaces$Rounds" "twice" "[J", Cond.fieldLink RX1 45 "PlaneFaces$Rounds" "odd" "[I", Cond.fieldLink RX1 48 "PlaneFaces$Rounds" "size" "I", Cond.instanceMethod yX2_init, Cond.code yX2_init cX2_init 1 none, Cond.methodLink RX2 3 objectInit, Cond.fieldLink RX2 9 "PlaneFaces$Segments" "x" "[I", Cond.fieldLink RX2 15 "PlaneFaces$Segments" "y" "[I"]
def wsX1_init_r2 : List Cond := [Cond.arrayClass .boolean, Cond.fieldLink RX2 18 "PlaneFaces$Segments" "used" "[Z", Cond.fieldLink RX2 22 "PlaneFaces$Segments" "size" "I"]
def wsX1_init : List Cond := .code yX1_init cX1_init 1 none :: ((wsX1_init_r1 ++ wsX1_init_r2) ++ wsX20 ++ wsX10)
def wsX0_init_r1 : List Cond := [Cond.methodLink RX0 3 objectInit, Cond.instanceMethod objectInit, Cond.code objectInit ⟨#[0xb1]⟩ 1 none, Cond.classLink RX0 9 RX1, Cond.instantiable RX1 11, Cond.initialized RX1, Cond.fieldLink RX0 12 "PlaneFaces$Faces" "rounds" "LPlaneFaces$Rounds;", Cond.fieldLink RX0 18 "PlaneFaces$Rounds" "segments" "LPlaneFaces$Segments;", Cond.fieldLink RX0 22 "PlaneFaces$Faces" "segments" "LPlaneFaces$Segments;", Cond.arrayClass .int, Cond.fieldLink RX0 23 "PlaneFaces$Faces" "home" "[I", Cond.fieldLink RX0 27 "PlaneFaces$Faces" "number" "[I", Cond.fieldLink RX0 30 "PlaneFaces$Faces" "faceOf" "[I", Cond.fieldLink RX0 33 "PlaneFaces$Faces" "outside" "[I", Cond.fieldLink RX0 36 "PlaneFaces$Faces" "steps" "[I", Cond.fieldLink RX0 39 "PlaneFaces$Faces" "size" "I", Cond.instanceMethod yX1_init, Cond.code yX1_init cX1_init 1 none, Cond.methodLink RX1 3 objectInit, Cond.classLink RX1 9 RX2, Cond.instantiable RX2 4, Cond.initialized RX2, Cond.fieldLink RX1 12 "PlaneFaces$Rounds" "segments" "LPlaneFaces$Segments;", Cond.fieldLink RX1 18 "PlaneFaces$Rounds" "corner" "[I"]
def wsX0_init_r2 : List Cond := [Cond.fieldLink RX1 22 "PlaneFaces$Rounds" "following" "[I", Cond.fieldLink RX1 25 "PlaneFaces$Rounds" "root" "[I", Cond.fieldLink RX1 28 "PlaneFaces$Rounds" "pieceOf" "[I", Cond.fieldLink RX1 31 "PlaneFaces$Rounds" "pieces" "I", Cond.fieldLink RX1 35 "PlaneFaces$Rounds" "roundOf" "[I", Cond.fieldLink RX1 38 "PlaneFaces$Rounds" "start" "[I", Cond.arrayClass .long, Cond.fieldLink RX1 41 "PlaneFaces$Rounds" "twice" "[J", Cond.fieldLink RX1 45 "PlaneFaces$Rounds" "odd" "[I", Cond.fieldLink RX1 48 "PlaneFaces$Rounds" "size" "I", Cond.instanceMethod yX2_init, Cond.code yX2_init cX2_init 1 none, Cond.methodLink RX2 3 objectInit, Cond.fieldLink RX2 9 "PlaneFaces$Segments" "x" "[I", Cond.fieldLink RX2 15 "PlaneFaces$Segments" "y" "[I", Cond.arrayClass .boolean, Cond.fieldLink RX2 18 "PlaneFaces$Segments" "used" "[Z", Cond.fieldLink RX2 22 "PlaneFaces$Segments" "size" "I"]
def wsX0_init : List Cond := .code yX0_init cX0_init 1 none :: ((wsX0_init_r1 ++ wsX0_init_r2) ++ wsX10 ++ wsX00 ++ wsX20)
def wsX1_pieceOfRound : List Cond := .code yX1_pieceOfRound cX1_pieceOfRound 2 (some .int) :: ([.fieldLink RX1 28 "PlaneFaces$Rounds" "pieceOf" "[I", .fieldLink RX1 38 "PlaneFaces$Rounds" "start" "[I"] ++ wsX10)
def wsJ7_fill_53178 : List Cond := .code yJ7_fill_53178 cJ7_fill_53178 4 none :: ([])
def wsX2_rightward : List Cond := .code yX2_rightward cX2_rightward 2 (some .int) :: ([.fieldLink RX2 9 "PlaneFaces$Segments" "x" "[I"] ++ wsX20)
def wsX2_side : List Cond := .code yX2_side cX2_side 8 (some .long) :: ([.fieldLink RX2 9 "PlaneFaces$Segments" "x" "[I", .fieldLink RX2 15 "PlaneFaces$Segments" "y" "[I"] ++ wsX20)
def wsX2_roofs : List Cond := .code yX2_roofs cX2_roofs 5 (some .boolean) :: ([.fieldLink RX2 9 "PlaneFaces$Segments" "x" "[I", .methodLink RX2 58 yX2_rightward, .instanceMethod yX2_rightward, .selects RX2 yX2_rightward yX2_rightward, .initialized RX2, .code yX2_rightward cX2_rightward 2 (some .int), .methodLink RX2 46 yX2_side, .instanceMethod yX2_side, .selects RX2 yX2_side yX2_side, .code yX2_side cX2_side 8 (some .long), .fieldLink RX2 15 "PlaneFaces$Segments" "y" "[I"] ++ wsX20)
def wsX1_markOddRounds : List Cond := .code yX1_markOddRounds cX1_markOddRounds 4 none :: ([.fieldLink RX1 45 "PlaneFaces$Rounds" "odd" "[I", .fieldLink RX1 12 "PlaneFaces$Rounds" "segments" "LPlaneFaces$Segments;", .fieldLink RX1 54 "PlaneFaces$Segments" "used" "[Z", .fieldLink RX1 35 "PlaneFaces$Rounds" "roundOf" "[I", .methodLink RX1 97 yJ7_fill_53178, .static yJ7_fill_53178, .initialized RJ7, .code yJ7_fill_53178 cJ7_fill_53178 4 none, .methodLink RX1 117 yX2_roofs, .instanceMethod yX2_roofs, .selects RX2 yX2_roofs yX2_roofs, .initialized RX2, .code yX2_roofs cX2_roofs 5 (some .boolean), .fieldLink RX2 9 "PlaneFaces$Segments" "x" "[I", .methodLink RX2 58 yX2_rightward, .instanceMethod yX2_rightward, .selects RX2 yX2_rightward yX2_rightward, .code yX2_rightward cX2_rightward 2 (some .int), .methodLink RX2 46 yX2_side, .instanceMethod yX2_side, .selects RX2 yX2_side yX2_side, .code yX2_side cX2_side 8 (some .long), .fieldLink RX2 15 "PlaneFaces$Segments" "y" "[I"] ++ wsX10 ++ wsX20)
def wsX1_enclosing_r1 : List Cond := [Cond.fieldLink RX1 48 "PlaneFaces$Rounds" "size" "I", Cond.fieldLink RX1 45 "PlaneFaces$Rounds" "odd" "[I", Cond.fieldLink RX1 41 "PlaneFaces$Rounds" "twice" "[J", Cond.methodLink RX1 111 yX1_markOddRounds, Cond.instanceMethod yX1_markOddRounds, Cond.selects RX1 yX1_markOddRounds yX1_markOddRounds, Cond.initialized RX1, Cond.code yX1_markOddRounds cX1_markOddRounds 4 none, Cond.fieldLink RX1 12 "PlaneFaces$Rounds" "segments" "LPlaneFaces$Segments;", Cond.fieldLink RX1 54 "PlaneFaces$Segments" "used" "[Z", Cond.fieldLink RX1 35 "PlaneFaces$Rounds" "roundOf" "[I", Cond.methodLink RX1 97 yJ7_fill_53178, Cond.static yJ7_fill_53178, Cond.initialized RJ7, Cond.code yJ7_fill_53178 cJ7_fill_53178 4 none, Cond.methodLink RX1 117 yX2_roofs, Cond.instanceMethod yX2_roofs, Cond.selects RX2 yX2_roofs yX2_roofs, Cond.initialized RX2, Cond.code yX2_roofs cX2_roofs 5 (some .boolean), Cond.fieldLink RX2 9 "PlaneFaces$Segments" "x" "[I", Cond.methodLink RX2 58 yX2_rightward, Cond.instanceMethod yX2_rightward, Cond.selects RX2 yX2_rightward yX2_rightward]
def wsX1_enclosing_r2 : List Cond := [Cond.code yX2_rightward cX2_rightward 2 (some .int), Cond.methodLink RX2 46 yX2_side, Cond.instanceMethod yX2_side, Cond.selects RX2 yX2_side yX2_side, Cond.code yX2_side cX2_side 8 (some .long), Cond.fieldLink RX2 15 "PlaneFaces$Segments" "y" "[I", Cond.methodLink RX1 114 yX1_pieceOfRound, Cond.instanceMethod yX1_pieceOfRound, Cond.selects RX1 yX1_pieceOfRound yX1_pieceOfRound, Cond.code yX1_pieceOfRound cX1_pieceOfRound 2 (some .int), Cond.fieldLink RX1 28 "PlaneFaces$Rounds" "pieceOf" "[I", Cond.fieldLink RX1 38 "PlaneFaces$Rounds" "start" "[I"]
def wsX1_enclosing : List Cond := .code yX1_enclosing cX1_enclosing 7 (some .int) :: ((wsX1_enclosing_r1 ++ wsX1_enclosing_r2) ++ wsX10 ++ wsX20)
def wsX0_findHomes_r1 : List Cond := [Cond.fieldLink RX0 12 "PlaneFaces$Faces" "rounds" "LPlaneFaces$Rounds;", Cond.fieldLink RX0 49 "PlaneFaces$Rounds" "size" "I", Cond.fieldLink RX0 54 "PlaneFaces$Rounds" "start" "[I", Cond.fieldLink RX0 23 "PlaneFaces$Faces" "home" "[I", Cond.fieldLink RX0 57 "PlaneFaces$Rounds" "twice" "[J", Cond.fieldLink RX0 22 "PlaneFaces$Faces" "segments" "LPlaneFaces$Segments;", Cond.fieldLink RX0 61 "PlaneFaces$Segments" "x" "[I", Cond.fieldLink RX0 66 "PlaneFaces$Segments" "y" "[I", Cond.methodLink RX0 50 yX1_pieceOfRound, Cond.instanceMethod yX1_pieceOfRound, Cond.selects RX1 yX1_pieceOfRound yX1_pieceOfRound, Cond.initialized RX1, Cond.code yX1_pieceOfRound cX1_pieceOfRound 2 (some .int), Cond.fieldLink RX1 28 "PlaneFaces$Rounds" "pieceOf" "[I", Cond.fieldLink RX1 38 "PlaneFaces$Rounds" "start" "[I", Cond.methodLink RX0 69 yX1_enclosing, Cond.instanceMethod yX1_enclosing, Cond.selects RX1 yX1_enclosing yX1_enclosing, Cond.code yX1_enclosing cX1_enclosing 7 (some .int), Cond.fieldLink RX1 48 "PlaneFaces$Rounds" "size" "I", Cond.fieldLink RX1 45 "PlaneFaces$Rounds" "odd" "[I", Cond.fieldLink RX1 41 "PlaneFaces$Rounds" "twice" "[J", Cond.methodLink RX1 111 yX1_markOddRounds, Cond.instanceMethod yX1_markOddRounds]
def wsX0_findHomes_r2 : List Cond := [Cond.selects RX1 yX1_markOddRounds yX1_markOddRounds, Cond.code yX1_markOddRounds cX1_markOddRounds 4 none, Cond.fieldLink RX1 12 "PlaneFaces$Rounds" "segments" "LPlaneFaces$Segments;", Cond.fieldLink RX1 54 "PlaneFaces$Segments" "used" "[Z", Cond.fieldLink RX1 35 "PlaneFaces$Rounds" "roundOf" "[I", Cond.methodLink RX1 97 yJ7_fill_53178, Cond.static yJ7_fill_53178, Cond.initialized RJ7, Cond.code yJ7_fill_53178 cJ7_fill_53178 4 none, Cond.methodLink RX1 117 yX2_roofs, Cond.instanceMethod yX2_roofs, Cond.selects RX2 yX2_roofs yX2_roofs, Cond.initialized RX2, Cond.code yX2_roofs cX2_roofs 5 (some .boolean), Cond.fieldLink RX2 9 "PlaneFaces$Segments" "x" "[I", Cond.methodLink RX2 58 yX2_rightward, Cond.instanceMethod yX2_rightward, Cond.selects RX2 yX2_rightward yX2_rightward, Cond.code yX2_rightward cX2_rightward 2 (some .int), Cond.methodLink RX2 46 yX2_side, Cond.instanceMethod yX2_side, Cond.selects RX2 yX2_side yX2_side, Cond.code yX2_side cX2_side 8 (some .long), Cond.fieldLink RX2 15 "PlaneFaces$Segments" "y" "[I"]
def wsX0_findHomes_r3 : List Cond := [Cond.methodLink RX1 114 yX1_pieceOfRound]
def wsX0_findHomes : List Cond := .code yX0_findHomes cX0_findHomes 3 none :: ((wsX0_findHomes_r1 ++ (wsX0_findHomes_r2 ++ wsX0_findHomes_r3)) ++ wsX00 ++ wsX10 ++ wsX20)
def wsX0_faceWithin : List Cond := .code yX0_faceWithin cX0_faceWithin 2 (some .int) :: ([.fieldLink RX0 27 "PlaneFaces$Faces" "number" "[I"] ++ wsX00)
def wsX0_numberFaces : List Cond := .code yX0_numberFaces cX0_numberFaces 3 none :: ([.fieldLink RX0 27 "PlaneFaces$Faces" "number" "[I", .fieldLink RX0 39 "PlaneFaces$Faces" "size" "I", .fieldLink RX0 22 "PlaneFaces$Faces" "segments" "LPlaneFaces$Segments;", .fieldLink RX0 79 "PlaneFaces$Segments" "used" "[Z", .fieldLink RX0 23 "PlaneFaces$Faces" "home" "[I", .fieldLink RX0 12 "PlaneFaces$Faces" "rounds" "LPlaneFaces$Rounds;", .fieldLink RX0 83 "PlaneFaces$Rounds" "roundOf" "[I", .fieldLink RX0 30 "PlaneFaces$Faces" "faceOf" "[I", .methodLink RX0 73 yJ7_fill_53178, .static yJ7_fill_53178, .initialized RJ7, .code yJ7_fill_53178 cJ7_fill_53178 4 none, .methodLink RX0 86 yX0_faceWithin, .instanceMethod yX0_faceWithin, .selects RX0 yX0_faceWithin yX0_faceWithin, .initialized RX0, .code yX0_faceWithin cX0_faceWithin 2 (some .int)] ++ wsX00 ++ wsX20 ++ wsX10)
def wsX0_settle_r1 : List Cond := [Cond.fieldLink RX0 12 "PlaneFaces$Faces" "rounds" "LPlaneFaces$Rounds;", Cond.fieldLink RX0 49 "PlaneFaces$Rounds" "size" "I", Cond.fieldLink RX0 23 "PlaneFaces$Faces" "home" "[I", Cond.fieldLink RX0 33 "PlaneFaces$Faces" "outside" "[I", Cond.fieldLink RX0 30 "PlaneFaces$Faces" "faceOf" "[I", Cond.fieldLink RX0 54 "PlaneFaces$Rounds" "start" "[I", Cond.methodLink RX0 43 yX0_findHomes, Cond.instanceMethod yX0_findHomes, Cond.selects RX0 yX0_findHomes yX0_findHomes, Cond.initialized RX0, Cond.code yX0_findHomes cX0_findHomes 3 none, Cond.fieldLink RX0 57 "PlaneFaces$Rounds" "twice" "[J", Cond.fieldLink RX0 22 "PlaneFaces$Faces" "segments" "LPlaneFaces$Segments;", Cond.fieldLink RX0 61 "PlaneFaces$Segments" "x" "[I", Cond.fieldLink RX0 66 "PlaneFaces$Segments" "y" "[I", Cond.methodLink RX0 50 yX1_pieceOfRound, Cond.instanceMethod yX1_pieceOfRound, Cond.selects RX1 yX1_pieceOfRound yX1_pieceOfRound, Cond.initialized RX1, Cond.code yX1_pieceOfRound cX1_pieceOfRound 2 (some .int), Cond.fieldLink RX1 28 "PlaneFaces$Rounds" "pieceOf" "[I", Cond.fieldLink RX1 38 "PlaneFaces$Rounds" "start" "[I", Cond.methodLink RX0 69 yX1_enclosing, Cond.instanceMethod yX1_enclosing]
def wsX0_settle_r2 : List Cond := [Cond.selects RX1 yX1_enclosing yX1_enclosing, Cond.code yX1_enclosing cX1_enclosing 7 (some .int), Cond.fieldLink RX1 48 "PlaneFaces$Rounds" "size" "I", Cond.fieldLink RX1 45 "PlaneFaces$Rounds" "odd" "[I", Cond.fieldLink RX1 41 "PlaneFaces$Rounds" "twice" "[J", Cond.methodLink RX1 111 yX1_markOddRounds, Cond.instanceMethod yX1_markOddRounds, Cond.selects RX1 yX1_markOddRounds yX1_markOddRounds, Cond.code yX1_markOddRounds cX1_markOddRounds 4 none, Cond.fieldLink RX1 12 "PlaneFaces$Rounds" "segments" "LPlaneFaces$Segments;", Cond.fieldLink RX1 54 "PlaneFaces$Segments" "used" "[Z", Cond.fieldLink RX1 35 "PlaneFaces$Rounds" "roundOf" "[I", Cond.methodLink RX1 97 yJ7_fill_53178, Cond.static yJ7_fill_53178, Cond.initialized RJ7, Cond.code yJ7_fill_53178 cJ7_fill_53178 4 none, Cond.methodLink RX1 117 yX2_roofs, Cond.instanceMethod yX2_roofs, Cond.selects RX2 yX2_roofs yX2_roofs, Cond.initialized RX2, Cond.code yX2_roofs cX2_roofs 5 (some .boolean), Cond.fieldLink RX2 9 "PlaneFaces$Segments" "x" "[I", Cond.methodLink RX2 58 yX2_rightward, Cond.instanceMethod yX2_rightward]
def wsX0_settle_r3 : List Cond := [Cond.selects RX2 yX2_rightward yX2_rightward, Cond.code yX2_rightward cX2_rightward 2 (some .int), Cond.methodLink RX2 46 yX2_side, Cond.instanceMethod yX2_side, Cond.selects RX2 yX2_side yX2_side, Cond.code yX2_side cX2_side 8 (some .long), Cond.fieldLink RX2 15 "PlaneFaces$Segments" "y" "[I", Cond.methodLink RX1 114 yX1_pieceOfRound, Cond.methodLink RX0 46 yX0_numberFaces, Cond.instanceMethod yX0_numberFaces, Cond.selects RX0 yX0_numberFaces yX0_numberFaces, Cond.code yX0_numberFaces cX0_numberFaces 3 none, Cond.fieldLink RX0 27 "PlaneFaces$Faces" "number" "[I", Cond.fieldLink RX0 39 "PlaneFaces$Faces" "size" "I", Cond.fieldLink RX0 79 "PlaneFaces$Segments" "used" "[Z", Cond.fieldLink RX0 83 "PlaneFaces$Rounds" "roundOf" "[I", Cond.methodLink RX0 73 yJ7_fill_53178, Cond.methodLink RX0 86 yX0_faceWithin, Cond.instanceMethod yX0_faceWithin, Cond.selects RX0 yX0_faceWithin yX0_faceWithin, Cond.code yX0_faceWithin cX0_faceWithin 2 (some .int)]
def wsX0_settle : List Cond := .code yX0_settle cX0_settle 2 none :: ((wsX0_settle_r1 ++ (wsX0_settle_r2 ++ wsX0_settle_r3)) ++ wsX00 ++ wsX10 ++ wsX20)
def wsX0_bridges : List Cond := .code yX0_bridges cX0_bridges 3 (some .int) :: ([.fieldLink RX0 22 "PlaneFaces$Faces" "segments" "LPlaneFaces$Segments;", .fieldLink RX0 79 "PlaneFaces$Segments" "used" "[Z", .fieldLink RX0 30 "PlaneFaces$Faces" "faceOf" "[I"] ++ wsX00 ++ wsX20)
def wsX0_twiceArea : List Cond := .code yX0_twiceArea cX0_twiceArea 5 (some .long) :: ([.fieldLink RX0 12 "PlaneFaces$Faces" "rounds" "LPlaneFaces$Rounds;", .fieldLink RX0 49 "PlaneFaces$Rounds" "size" "I", .fieldLink RX0 30 "PlaneFaces$Faces" "faceOf" "[I", .fieldLink RX0 54 "PlaneFaces$Rounds" "start" "[I", .fieldLink RX0 57 "PlaneFaces$Rounds" "twice" "[J"] ++ wsX00 ++ wsX10)
def wsX0_roundsOf : List Cond := .code yX0_roundsOf cX0_roundsOf 4 (some .int) :: ([.fieldLink RX0 12 "PlaneFaces$Faces" "rounds" "LPlaneFaces$Rounds;", .fieldLink RX0 49 "PlaneFaces$Rounds" "size" "I", .fieldLink RX0 30 "PlaneFaces$Faces" "faceOf" "[I", .fieldLink RX0 54 "PlaneFaces$Rounds" "start" "[I"] ++ wsX00 ++ wsX10)
def wsX0_halvesOf : List Cond := .code yX0_halvesOf cX0_halvesOf 4 (some .int) :: ([.fieldLink RX0 22 "PlaneFaces$Faces" "segments" "LPlaneFaces$Segments;", .fieldLink RX0 79 "PlaneFaces$Segments" "used" "[Z", .fieldLink RX0 30 "PlaneFaces$Faces" "faceOf" "[I"] ++ wsX00 ++ wsX20)
def wsX0_leastHalfOf : List Cond := .code yX0_leastHalfOf cX0_leastHalfOf 3 (some .int) :: ([.fieldLink RX0 22 "PlaneFaces$Faces" "segments" "LPlaneFaces$Segments;", .fieldLink RX0 79 "PlaneFaces$Segments" "used" "[Z", .fieldLink RX0 30 "PlaneFaces$Faces" "faceOf" "[I"] ++ wsX00 ++ wsX20)
def wsX0_piecesIn : List Cond := .code yX0_piecesIn cX0_piecesIn 4 (some .int) :: ([.fieldLink RX0 12 "PlaneFaces$Faces" "rounds" "LPlaneFaces$Rounds;", .fieldLink RX0 89 "PlaneFaces$Rounds" "pieces" "I", .fieldLink RX0 33 "PlaneFaces$Faces" "outside" "[I"] ++ wsX00 ++ wsX10)
def wsX0_cross : List Cond := .code yX0_cross cX0_cross 4 none :: ([.fieldLink RX0 36 "PlaneFaces$Faces" "steps" "[I"] ++ wsX00)
def wsX0_crossings : List Cond := .code yX0_crossings cX0_crossings 5 (some .int) :: ([.fieldLink RX0 36 "PlaneFaces$Faces" "steps" "[I", .fieldLink RX0 39 "PlaneFaces$Faces" "size" "I", .fieldLink RX0 22 "PlaneFaces$Faces" "segments" "LPlaneFaces$Segments;", .fieldLink RX0 79 "PlaneFaces$Segments" "used" "[Z", .fieldLink RX0 30 "PlaneFaces$Faces" "faceOf" "[I", .methodLink RX0 73 yJ7_fill_53178, .static yJ7_fill_53178, .initialized RJ7, .code yJ7_fill_53178 cJ7_fill_53178 4 none, .methodLink RX0 92 yX0_cross, .instanceMethod yX0_cross, .selects RX0 yX0_cross yX0_cross, .initialized RX0, .code yX0_cross cX0_cross 4 none] ++ wsX00 ++ wsX20)
def wsX2_leastHalfAt : List Cond := .code yX2_leastHalfAt cX2_leastHalfAt 4 (some .int) :: ([.fieldLink RX2 18 "PlaneFaces$Segments" "used" "[Z", .fieldLink RX2 9 "PlaneFaces$Segments" "x" "[I", .fieldLink RX2 15 "PlaneFaces$Segments" "y" "[I"] ++ wsX20)
def wsX1_findCorners : List Cond := .code yX1_findCorners cX1_findCorners 2 none :: ([.fieldLink RX1 18 "PlaneFaces$Rounds" "corner" "[I", .fieldLink RX1 12 "PlaneFaces$Rounds" "segments" "LPlaneFaces$Segments;", .fieldLink RX1 54 "PlaneFaces$Segments" "used" "[Z", .fieldLink RX1 71 "PlaneFaces$Segments" "x" "[I", .fieldLink RX1 74 "PlaneFaces$Segments" "y" "[I", .methodLink RX1 77 yX2_leastHalfAt, .instanceMethod yX2_leastHalfAt, .selects RX2 yX2_leastHalfAt yX2_leastHalfAt, .initialized RX2, .code yX2_leastHalfAt cX2_leastHalfAt 4 (some .int), .fieldLink RX2 18 "PlaneFaces$Segments" "used" "[Z", .fieldLink RX2 9 "PlaneFaces$Segments" "x" "[I", .fieldLink RX2 15 "PlaneFaces$Segments" "y" "[I"] ++ wsX10 ++ wsX20)
def wsX2_turn : List Cond := .code yX2_turn cX2_turn 7 (some .long) :: ([.fieldLink RX2 9 "PlaneFaces$Segments" "x" "[I", .fieldLink RX2 15 "PlaneFaces$Segments" "y" "[I"] ++ wsX20)
def wsX2_signOf : List Cond := .code yX2_signOf cX2_signOf 2 (some .int) :: ([])
def wsX2_sooner : List Cond := .code yX2_sooner cX2_sooner 6 (some .boolean) :: ([.methodLink RX2 50 yX2_turn, .instanceMethod yX2_turn, .selects RX2 yX2_turn yX2_turn, .initialized RX2, .code yX2_turn cX2_turn 7 (some .long), .fieldLink RX2 9 "PlaneFaces$Segments" "x" "[I", .fieldLink RX2 15 "PlaneFaces$Segments" "y" "[I", .methodLink RX2 54 yX2_signOf, .static yX2_signOf, .code yX2_signOf cX2_signOf 2 (some .int)] ++ wsX20)
def wsX1_firstClockwise : List Cond := .code yX1_firstClockwise cX1_firstClockwise 5 (some .int) :: ([.fieldLink RX1 18 "PlaneFaces$Rounds" "corner" "[I", .fieldLink RX1 12 "PlaneFaces$Rounds" "segments" "LPlaneFaces$Segments;", .methodLink RX1 81 yX2_sooner, .instanceMethod yX2_sooner, .selects RX2 yX2_sooner yX2_sooner, .initialized RX2, .code yX2_sooner cX2_sooner 6 (some .boolean), .methodLink RX2 50 yX2_turn, .instanceMethod yX2_turn, .selects RX2 yX2_turn yX2_turn, .code yX2_turn cX2_turn 7 (some .long), .fieldLink RX2 9 "PlaneFaces$Segments" "x" "[I", .fieldLink RX2 15 "PlaneFaces$Segments" "y" "[I", .methodLink RX2 54 yX2_signOf, .static yX2_signOf, .code yX2_signOf cX2_signOf 2 (some .int)] ++ wsX10 ++ wsX20)
def wsX1_joinRoots : List Cond := .code yX1_joinRoots cX1_joinRoots 4 none :: ([.fieldLink RX1 25 "PlaneFaces$Rounds" "root" "[I", .methodLink RX1 89 Lib.Math.max.name, .static Lib.Math.max.name, .initialized "java/lang/Math", .code Lib.Math.max.name Lib.Math.max.code 2 (some .int), .methodLink RX1 94 Lib.Math.min.name, .static Lib.Math.min.name, .code Lib.Math.min.name Lib.Math.min.code 2 (some .int)] ++ wsX10)
def wsX1_joinPieces : List Cond := .code yX1_joinPieces cX1_joinPieces 2 none :: ([.fieldLink RX1 25 "PlaneFaces$Rounds" "root" "[I", .fieldLink RX1 12 "PlaneFaces$Rounds" "segments" "LPlaneFaces$Segments;", .fieldLink RX1 54 "PlaneFaces$Segments" "used" "[Z", .fieldLink RX1 18 "PlaneFaces$Rounds" "corner" "[I", .methodLink RX1 85 yX1_joinRoots, .instanceMethod yX1_joinRoots, .selects RX1 yX1_joinRoots yX1_joinRoots, .initialized RX1, .code yX1_joinRoots cX1_joinRoots 4 none, .methodLink RX1 89 Lib.Math.max.name, .static Lib.Math.max.name, .initialized "java/lang/Math", .code Lib.Math.max.name Lib.Math.max.code 2 (some .int), .methodLink RX1 94 Lib.Math.min.name, .static Lib.Math.min.name, .code Lib.Math.min.name Lib.Math.min.code 2 (some .int)] ++ wsX10 ++ wsX20)
def wsX1_numberPieces : List Cond := .code yX1_numberPieces cX1_numberPieces 2 none :: ([.fieldLink RX1 31 "PlaneFaces$Rounds" "pieces" "I", .fieldLink RX1 12 "PlaneFaces$Rounds" "segments" "LPlaneFaces$Segments;", .fieldLink RX1 54 "PlaneFaces$Segments" "used" "[Z", .fieldLink RX1 25 "PlaneFaces$Rounds" "root" "[I", .fieldLink RX1 28 "PlaneFaces$Rounds" "pieceOf" "[I"] ++ wsX10 ++ wsX20)
def wsX2_sweep : List Cond := .code yX2_sweep cX2_sweep 2 (some .long) :: ([.fieldLink RX2 9 "PlaneFaces$Segments" "x" "[I", .fieldLink RX2 15 "PlaneFaces$Segments" "y" "[I"] ++ wsX20)
def wsX1_walk : List Cond := .code yX1_walk cX1_walk 4 none :: ([.fieldLink RX1 38 "PlaneFaces$Rounds" "start" "[I", .fieldLink RX1 48 "PlaneFaces$Rounds" "size" "I", .fieldLink RX1 41 "PlaneFaces$Rounds" "twice" "[J", .fieldLink RX1 35 "PlaneFaces$Rounds" "roundOf" "[I", .fieldLink RX1 12 "PlaneFaces$Rounds" "segments" "LPlaneFaces$Segments;", .fieldLink RX1 22 "PlaneFaces$Rounds" "following" "[I", .methodLink RX1 107 yX2_sweep, .instanceMethod yX2_sweep, .selects RX2 yX2_sweep yX2_sweep, .initialized RX2, .code yX2_sweep cX2_sweep 2 (some .long), .fieldLink RX2 9 "PlaneFaces$Segments" "x" "[I", .fieldLink RX2 15 "PlaneFaces$Segments" "y" "[I"] ++ wsX10 ++ wsX20)
def wsX1_walkRounds : List Cond := .code yX1_walkRounds cX1_walkRounds 2 none :: ([.fieldLink RX1 35 "PlaneFaces$Rounds" "roundOf" "[I", .fieldLink RX1 48 "PlaneFaces$Rounds" "size" "I", .fieldLink RX1 12 "PlaneFaces$Rounds" "segments" "LPlaneFaces$Segments;", .fieldLink RX1 54 "PlaneFaces$Segments" "used" "[Z", .methodLink RX1 97 yJ7_fill_53178, .static yJ7_fill_53178, .initialized RJ7, .code yJ7_fill_53178 cJ7_fill_53178 4 none, .methodLink RX1 103 yX1_walk, .instanceMethod yX1_walk, .selects RX1 yX1_walk yX1_walk, .initialized RX1, .code yX1_walk cX1_walk 4 none, .fieldLink RX1 38 "PlaneFaces$Rounds" "start" "[I", .fieldLink RX1 41 "PlaneFaces$Rounds" "twice" "[J", .fieldLink RX1 22 "PlaneFaces$Rounds" "following" "[I", .methodLink RX1 107 yX2_sweep, .instanceMethod yX2_sweep, .selects RX2 yX2_sweep yX2_sweep, .initialized RX2, .code yX2_sweep cX2_sweep 2 (some .long), .fieldLink RX2 9 "PlaneFaces$Segments" "x" "[I", .fieldLink RX2 15 "PlaneFaces$Segments" "y" "[I"] ++ wsX10 ++ wsX20)
def wsX1_trace_r1 : List Cond := [Cond.fieldLink RX1 22 "PlaneFaces$Rounds" "following" "[I", Cond.fieldLink RX1 12 "PlaneFaces$Rounds" "segments" "LPlaneFaces$Segments;", Cond.fieldLink RX1 54 "PlaneFaces$Segments" "used" "[Z", Cond.methodLink RX1 51 yX1_findCorners, Cond.instanceMethod yX1_findCorners, Cond.selects RX1 yX1_findCorners yX1_findCorners, Cond.initialized RX1, Cond.code yX1_findCorners cX1_findCorners 2 none, Cond.fieldLink RX1 18 "PlaneFaces$Rounds" "corner" "[I", Cond.fieldLink RX1 71 "PlaneFaces$Segments" "x" "[I", Cond.fieldLink RX1 74 "PlaneFaces$Segments" "y" "[I", Cond.methodLink RX1 77 yX2_leastHalfAt, Cond.instanceMethod yX2_leastHalfAt, Cond.selects RX2 yX2_leastHalfAt yX2_leastHalfAt, Cond.initialized RX2, Cond.code yX2_leastHalfAt cX2_leastHalfAt 4 (some .int), Cond.fieldLink RX2 18 "PlaneFaces$Segments" "used" "[Z", Cond.fieldLink RX2 9 "PlaneFaces$Segments" "x" "[I", Cond.fieldLink RX2 15 "PlaneFaces$Segments" "y" "[I", Cond.methodLink RX1 58 yX1_firstClockwise, Cond.instanceMethod yX1_firstClockwise, Cond.selects RX1 yX1_firstClockwise yX1_firstClockwise, Cond.code yX1_firstClockwise cX1_firstClockwise 5 (some .int), Cond.methodLink RX1 81 yX2_sooner]
def wsX1_trace_r2 : List Cond := [Cond.instanceMethod yX2_sooner, Cond.selects RX2 yX2_sooner yX2_sooner, Cond.code yX2_sooner cX2_sooner 6 (some .boolean), Cond.methodLink RX2 50 yX2_turn, Cond.instanceMethod yX2_turn, Cond.selects RX2 yX2_turn yX2_turn, Cond.code yX2_turn cX2_turn 7 (some .long), Cond.methodLink RX2 54 yX2_signOf, Cond.static yX2_signOf, Cond.code yX2_signOf cX2_signOf 2 (some .int), Cond.methodLink RX1 62 yX1_joinPieces, Cond.instanceMethod yX1_joinPieces, Cond.selects RX1 yX1_joinPieces yX1_joinPieces, Cond.code yX1_joinPieces cX1_joinPieces 2 none, Cond.fieldLink RX1 25 "PlaneFaces$Rounds" "root" "[I", Cond.methodLink RX1 85 yX1_joinRoots, Cond.instanceMethod yX1_joinRoots, Cond.selects RX1 yX1_joinRoots yX1_joinRoots, Cond.code yX1_joinRoots cX1_joinRoots 4 none, Cond.methodLink RX1 89 Lib.Math.max.name, Cond.static Lib.Math.max.name, Cond.initialized "java/lang/Math", Cond.code Lib.Math.max.name Lib.Math.max.code 2 (some .int), Cond.methodLink RX1 94 Lib.Math.min.name]
def wsX1_trace_r3 : List Cond := [Cond.static Lib.Math.min.name, Cond.code Lib.Math.min.name Lib.Math.min.code 2 (some .int), Cond.methodLink RX1 65 yX1_numberPieces, Cond.instanceMethod yX1_numberPieces, Cond.selects RX1 yX1_numberPieces yX1_numberPieces, Cond.code yX1_numberPieces cX1_numberPieces 2 none, Cond.fieldLink RX1 31 "PlaneFaces$Rounds" "pieces" "I", Cond.fieldLink RX1 28 "PlaneFaces$Rounds" "pieceOf" "[I", Cond.methodLink RX1 68 yX1_walkRounds, Cond.instanceMethod yX1_walkRounds, Cond.selects RX1 yX1_walkRounds yX1_walkRounds, Cond.code yX1_walkRounds cX1_walkRounds 2 none, Cond.fieldLink RX1 35 "PlaneFaces$Rounds" "roundOf" "[I", Cond.fieldLink RX1 48 "PlaneFaces$Rounds" "size" "I", Cond.methodLink RX1 97 yJ7_fill_53178, Cond.static yJ7_fill_53178, Cond.initialized RJ7, Cond.code yJ7_fill_53178 cJ7_fill_53178 4 none, Cond.methodLink RX1 103 yX1_walk, Cond.instanceMethod yX1_walk, Cond.selects RX1 yX1_walk yX1_walk, Cond.code yX1_walk cX1_walk 4 none, Cond.fieldLink RX1 38 "PlaneFaces$Rounds" "start" "[I", Cond.fieldLink RX1 41 "PlaneFaces$Rounds" "twice" "[J"]
def wsX1_trace_r4 : List Cond := [Cond.methodLink RX1 107 yX2_sweep, Cond.instanceMethod yX2_sweep, Cond.selects RX2 yX2_sweep yX2_sweep, Cond.code yX2_sweep cX2_sweep 2 (some .long)]
def wsX1_trace : List Cond := .code yX1_trace cX1_trace 2 none :: ((wsX1_trace_r1 ++ (wsX1_trace_r2 ++ (wsX1_trace_r3 ++ wsX1_trace_r4))) ++ wsX10 ++ wsX20)
def wsX1_corners : List Cond := .code yX1_corners cX1_corners 3 (some .int) :: ([.fieldLink RX1 12 "PlaneFaces$Rounds" "segments" "LPlaneFaces$Segments;", .fieldLink RX1 54 "PlaneFaces$Segments" "used" "[Z", .fieldLink RX1 18 "PlaneFaces$Rounds" "corner" "[I"] ++ wsX10 ++ wsX20)
def wsX2_has : List Cond := .code yX2_has cX2_has 2 (some .boolean) :: ([.fieldLink RX2 18 "PlaneFaces$Segments" "used" "[Z"] ++ wsX20)
def wsX2_leastFree : List Cond := .code yX2_leastFree cX2_leastFree 2 (some .int) :: ([.fieldLink RX2 18 "PlaneFaces$Segments" "used" "[Z"] ++ wsX20)
def wsX2_draw : List Cond := .code yX2_draw cX2_draw 6 none :: ([.fieldLink RX2 9 "PlaneFaces$Segments" "x" "[I", .fieldLink RX2 15 "PlaneFaces$Segments" "y" "[I"] ++ wsX20)
def wsX2_keep : List Cond := .code yX2_keep cX2_keep 2 none :: ([.fieldLink RX2 18 "PlaneFaces$Segments" "used" "[Z", .fieldLink RX2 22 "PlaneFaces$Segments" "size" "I"] ++ wsX20)
def wsX2_drop : List Cond := .code yX2_drop cX2_drop 2 none :: ([.fieldLink RX2 18 "PlaneFaces$Segments" "used" "[Z", .fieldLink RX2 22 "PlaneFaces$Segments" "size" "I"] ++ wsX20)
def wsX2_dropAll : List Cond := .code yX2_dropAll cX2_dropAll 2 none :: ([.fieldLink RX2 18 "PlaneFaces$Segments" "used" "[Z", .fieldLink RX2 22 "PlaneFaces$Segments" "size" "I"] ++ wsX20)
def wsX2_holds : List Cond := .code yX2_holds cX2_holds 8 (some .boolean) :: ([.fieldLink RX2 9 "PlaneFaces$Segments" "x" "[I", .fieldLink RX2 15 "PlaneFaces$Segments" "y" "[I", .methodLink RX2 46 yX2_side, .instanceMethod yX2_side, .selects RX2 yX2_side yX2_side, .initialized RX2, .code yX2_side cX2_side 8 (some .long)] ++ wsX20)
def wsX2_touches : List Cond := .code yX2_touches cX2_touches 3 (some .boolean) :: ([.fieldLink RX2 9 "PlaneFaces$Segments" "x" "[I", .fieldLink RX2 15 "PlaneFaces$Segments" "y" "[I", .methodLink RX2 36 yX2_holds, .instanceMethod yX2_holds, .selects RX2 yX2_holds yX2_holds, .initialized RX2, .code yX2_holds cX2_holds 8 (some .boolean), .methodLink RX2 46 yX2_side, .instanceMethod yX2_side, .selects RX2 yX2_side yX2_side, .code yX2_side cX2_side 8 (some .long)] ++ wsX20)
def wsX2_sameBegin : List Cond := .code yX2_sameBegin cX2_sameBegin 3 (some .boolean) :: ([.fieldLink RX2 9 "PlaneFaces$Segments" "x" "[I", .fieldLink RX2 15 "PlaneFaces$Segments" "y" "[I"] ++ wsX20)
def wsX2_sameEnds : List Cond := .code yX2_sameEnds cX2_sameEnds 3 (some .boolean) :: ([.methodLink RX2 40 yX2_sameBegin, .instanceMethod yX2_sameBegin, .selects RX2 yX2_sameBegin yX2_sameBegin, .initialized RX2, .code yX2_sameBegin cX2_sameBegin 3 (some .boolean), .fieldLink RX2 9 "PlaneFaces$Segments" "x" "[I", .fieldLink RX2 15 "PlaneFaces$Segments" "y" "[I"] ++ wsX20)
def wsX2_parts : List Cond := .code yX2_parts cX2_parts 7 (some .boolean) :: ([.fieldLink RX2 9 "PlaneFaces$Segments" "x" "[I", .fieldLink RX2 15 "PlaneFaces$Segments" "y" "[I", .methodLink RX2 46 yX2_side, .instanceMethod yX2_side, .selects RX2 yX2_side yX2_side, .initialized RX2, .code yX2_side cX2_side 8 (some .long)] ++ wsX20)
def wsX2_crosses : List Cond := .code yX2_crosses cX2_crosses 3 (some .boolean) :: ([.methodLink RX2 43 yX2_parts, .instanceMethod yX2_parts, .selects RX2 yX2_parts yX2_parts, .initialized RX2, .code yX2_parts cX2_parts 7 (some .boolean), .fieldLink RX2 9 "PlaneFaces$Segments" "x" "[I", .fieldLink RX2 15 "PlaneFaces$Segments" "y" "[I", .methodLink RX2 46 yX2_side, .instanceMethod yX2_side, .selects RX2 yX2_side yX2_side, .code yX2_side cX2_side 8 (some .long)] ++ wsX20)
def wsX2_clashes_r1 : List Cond := [Cond.fieldLink RX2 18 "PlaneFaces$Segments" "used" "[Z", Cond.methodLink RX2 26 yX2_touches, Cond.instanceMethod yX2_touches, Cond.selects RX2 yX2_touches yX2_touches, Cond.initialized RX2, Cond.code yX2_touches cX2_touches 3 (some .boolean), Cond.fieldLink RX2 9 "PlaneFaces$Segments" "x" "[I", Cond.fieldLink RX2 15 "PlaneFaces$Segments" "y" "[I", Cond.methodLink RX2 36 yX2_holds, Cond.instanceMethod yX2_holds, Cond.selects RX2 yX2_holds yX2_holds, Cond.code yX2_holds cX2_holds 8 (some .boolean), Cond.methodLink RX2 46 yX2_side, Cond.instanceMethod yX2_side, Cond.selects RX2 yX2_side yX2_side, Cond.code yX2_side cX2_side 8 (some .long), Cond.methodLink RX2 30 yX2_sameEnds, Cond.instanceMethod yX2_sameEnds, Cond.selects RX2 yX2_sameEnds yX2_sameEnds, Cond.code yX2_sameEnds cX2_sameEnds 3 (some .boolean), Cond.methodLink RX2 40 yX2_sameBegin, Cond.instanceMethod yX2_sameBegin, Cond.selects RX2 yX2_sameBegin yX2_sameBegin, Cond.code yX2_sameBegin cX2_sameBegin 3 (some .boolean)]
def wsX2_clashes_r2 : List Cond := [Cond.methodLink RX2 33 yX2_crosses, Cond.instanceMethod yX2_crosses, Cond.selects RX2 yX2_crosses yX2_crosses, Cond.code yX2_crosses cX2_crosses 3 (some .boolean), Cond.methodLink RX2 43 yX2_parts, Cond.instanceMethod yX2_parts, Cond.selects RX2 yX2_parts yX2_parts, Cond.code yX2_parts cX2_parts 7 (some .boolean)]
def wsX2_clashes : List Cond := .code yX2_clashes cX2_clashes 3 (some .boolean) :: ((wsX2_clashes_r1 ++ wsX2_clashes_r2) ++ wsX20)
def wsX2_segmentThrough : List Cond := .code yX2_segmentThrough cX2_segmentThrough 4 (some .int) :: ([.fieldLink RX2 18 "PlaneFaces$Segments" "used" "[Z", .methodLink RX2 36 yX2_holds, .instanceMethod yX2_holds, .selects RX2 yX2_holds yX2_holds, .initialized RX2, .code yX2_holds cX2_holds 8 (some .boolean), .fieldLink RX2 9 "PlaneFaces$Segments" "x" "[I", .fieldLink RX2 15 "PlaneFaces$Segments" "y" "[I", .methodLink RX2 46 yX2_side, .instanceMethod yX2_side, .selects RX2 yX2_side yX2_side, .code yX2_side cX2_side 8 (some .long)] ++ wsX20)
def wsX2_reachesAbove : List Cond := .code yX2_reachesAbove cX2_reachesAbove 5 (some .boolean) :: ([.fieldLink RX2 9 "PlaneFaces$Segments" "x" "[I", .fieldLink RX2 15 "PlaneFaces$Segments" "y" "[I", .methodLink RX2 72 Lib.Math.max.name, .static Lib.Math.max.name, .initialized "java/lang/Math", .code Lib.Math.max.name Lib.Math.max.code 2 (some .int), .methodLink RX2 58 yX2_rightward, .instanceMethod yX2_rightward, .selects RX2 yX2_rightward yX2_rightward, .initialized RX2, .code yX2_rightward cX2_rightward 2 (some .int), .methodLink RX2 46 yX2_side, .instanceMethod yX2_side, .selects RX2 yX2_side yX2_side, .code yX2_side cX2_side 8 (some .long)] ++ wsX20)
def wsX2_height : List Cond := .code yX2_height cX2_height 9 (some .long) :: ([.fieldLink RX2 9 "PlaneFaces$Segments" "x" "[I", .fieldLink RX2 15 "PlaneFaces$Segments" "y" "[I", .methodLink RX2 78 Lib.Math.min.name, .static Lib.Math.min.name, .initialized "java/lang/Math", .code Lib.Math.min.name Lib.Math.min.code 2 (some .int), .methodLink RX2 72 Lib.Math.max.name, .static Lib.Math.max.name, .code Lib.Math.max.name Lib.Math.max.code 2 (some .int), .methodLink RX2 58 yX2_rightward, .instanceMethod yX2_rightward, .selects RX2 yX2_rightward yX2_rightward, .initialized RX2, .code yX2_rightward cX2_rightward 2 (some .int)] ++ wsX20)
def wsX2_width : List Cond := .code yX2_width cX2_width 2 (some .long) :: ([.fieldLink RX2 9 "PlaneFaces$Segments" "x" "[I", .methodLink RX2 81 Lib.Math.abs.name, .static Lib.Math.abs.name, .initialized "java/lang/Math", .code Lib.Math.abs.name Lib.Math.abs.code 1 (some .int), .methodLink RX2 72 Lib.Math.max.name, .static Lib.Math.max.name, .code Lib.Math.max.name Lib.Math.max.code 2 (some .int)] ++ wsX20)
def wsX2_firstUpFrom_r1 : List Cond := [Cond.fieldLink RX2 18 "PlaneFaces$Segments" "used" "[Z", Cond.methodLink RX2 62 yX2_reachesAbove, Cond.instanceMethod yX2_reachesAbove, Cond.selects RX2 yX2_reachesAbove yX2_reachesAbove, Cond.initialized RX2, Cond.code yX2_reachesAbove cX2_reachesAbove 5 (some .boolean), Cond.fieldLink RX2 9 "PlaneFaces$Segments" "x" "[I", Cond.fieldLink RX2 15 "PlaneFaces$Segments" "y" "[I", Cond.methodLink RX2 72 Lib.Math.max.name, Cond.static Lib.Math.max.name, Cond.initialized "java/lang/Math", Cond.code Lib.Math.max.name Lib.Math.max.code 2 (some .int), Cond.methodLink RX2 58 yX2_rightward, Cond.instanceMethod yX2_rightward, Cond.selects RX2 yX2_rightward yX2_rightward, Cond.code yX2_rightward cX2_rightward 2 (some .int), Cond.methodLink RX2 46 yX2_side, Cond.instanceMethod yX2_side, Cond.selects RX2 yX2_side yX2_side, Cond.code yX2_side cX2_side 8 (some .long), Cond.methodLink RX2 65 yX2_height, Cond.instanceMethod yX2_height, Cond.selects RX2 yX2_height yX2_height, Cond.code yX2_height cX2_height 9 (some .long)]
def wsX2_firstUpFrom_r2 : List Cond := [Cond.methodLink RX2 78 Lib.Math.min.name, Cond.static Lib.Math.min.name, Cond.code Lib.Math.min.name Lib.Math.min.code 2 (some .int), Cond.methodLink RX2 68 yX2_width, Cond.instanceMethod yX2_width, Cond.selects RX2 yX2_width yX2_width, Cond.code yX2_width cX2_width 2 (some .long), Cond.methodLink RX2 81 Lib.Math.abs.name, Cond.static Lib.Math.abs.name, Cond.code Lib.Math.abs.name Lib.Math.abs.code 1 (some .int)]
def wsX2_firstUpFrom : List Cond := .code yX2_firstUpFrom cX2_firstUpFrom 13 (some .int) :: ((wsX2_firstUpFrom_r1 ++ wsX2_firstUpFrom_r2) ++ wsX20)
def wsX3_init_r1 : List Cond := [Cond.methodLink RX3 3 objectInit, Cond.instanceMethod objectInit, Cond.code objectInit ⟨#[0xb1]⟩ 1 none, Cond.classLink RX3 9 RX0, Cond.instantiable RX0 8, Cond.initialized RX0, Cond.fieldLink RX3 12 "PlaneFaces" "faces" "LPlaneFaces$Faces;", Cond.fieldLink RX3 16 "PlaneFaces$Faces" "rounds" "LPlaneFaces$Rounds;", Cond.fieldLink RX3 20 "PlaneFaces" "rounds" "LPlaneFaces$Rounds;", Cond.fieldLink RX3 21 "PlaneFaces$Rounds" "segments" "LPlaneFaces$Segments;", Cond.fieldLink RX3 27 "PlaneFaces" "segments" "LPlaneFaces$Segments;", Cond.fieldLink RX3 28 "PlaneFaces" "stale" "Z", Cond.instanceMethod yX0_init, Cond.code yX0_init cX0_init 1 none, Cond.methodLink RX0 3 objectInit, Cond.classLink RX0 9 RX1, Cond.instantiable RX1 11, Cond.initialized RX1, Cond.fieldLink RX0 12 "PlaneFaces$Faces" "rounds" "LPlaneFaces$Rounds;", Cond.fieldLink RX0 18 "PlaneFaces$Rounds" "segments" "LPlaneFaces$Segments;", Cond.fieldLink RX0 22 "PlaneFaces$Faces" "segments" "LPlaneFaces$Segments;", Cond.arrayClass .int, Cond.fieldLink RX0 23 "PlaneFaces$Faces" "home" "[I", Cond.fieldLink RX0 27 "PlaneFaces$Faces" "number" "[I"]
def wsX3_init_r2 : List Cond := [Cond.fieldLink RX0 30 "PlaneFaces$Faces" "faceOf" "[I", Cond.fieldLink RX0 33 "PlaneFaces$Faces" "outside" "[I", Cond.fieldLink RX0 36 "PlaneFaces$Faces" "steps" "[I", Cond.fieldLink RX0 39 "PlaneFaces$Faces" "size" "I", Cond.instanceMethod yX1_init, Cond.code yX1_init cX1_init 1 none, Cond.methodLink RX1 3 objectInit, Cond.classLink RX1 9 RX2, Cond.instantiable RX2 4, Cond.initialized RX2, Cond.fieldLink RX1 12 "PlaneFaces$Rounds" "segments" "LPlaneFaces$Segments;", Cond.fieldLink RX1 18 "PlaneFaces$Rounds" "corner" "[I", Cond.fieldLink RX1 22 "PlaneFaces$Rounds" "following" "[I", Cond.fieldLink RX1 25 "PlaneFaces$Rounds" "root" "[I", Cond.fieldLink RX1 28 "PlaneFaces$Rounds" "pieceOf" "[I", Cond.fieldLink RX1 31 "PlaneFaces$Rounds" "pieces" "I", Cond.fieldLink RX1 35 "PlaneFaces$Rounds" "roundOf" "[I", Cond.fieldLink RX1 38 "PlaneFaces$Rounds" "start" "[I", Cond.arrayClass .long, Cond.fieldLink RX1 41 "PlaneFaces$Rounds" "twice" "[J", Cond.fieldLink RX1 45 "PlaneFaces$Rounds" "odd" "[I", Cond.fieldLink RX1 48 "PlaneFaces$Rounds" "size" "I", Cond.instanceMethod yX2_init, Cond.code yX2_init cX2_init 1 none]
def wsX3_init_r3 : List Cond := [Cond.methodLink RX2 3 objectInit, Cond.fieldLink RX2 9 "PlaneFaces$Segments" "x" "[I", Cond.fieldLink RX2 15 "PlaneFaces$Segments" "y" "[I", Cond.arrayClass .boolean, Cond.fieldLink RX2 18 "PlaneFaces$Segments" "used" "[Z", Cond.fieldLink RX2 22 "PlaneFaces$Segments" "size" "I"]
def wsX3_init : List Cond := .code yX3_init cX3_init 1 none :: ((wsX3_init_r1 ++ (wsX3_init_r2 ++ wsX3_init_r3)) ++ wsX00 ++ wsX30 ++ wsX10 ++ wsX20)
def wsX3_requirePlace : List Cond := .code yX3_requirePlace cX3_requirePlace 2 none :: ([.classLink RX3 36 "java/lang/IllegalArgumentException", .initialized "java/lang/IllegalArgumentException"] ++ (vx_atS RX3 40 "java/lang/IllegalArgumentException" ["java/lang/RuntimeException", "java/lang/Exception"]).filter goodWord)
def wsX3_add_r1 : List Cond := [Cond.classLink RX3 36 "java/lang/IllegalArgumentException", Cond.initialized "java/lang/IllegalArgumentException", Cond.classLink RX3 49 "java/lang/IllegalStateException", Cond.initialized "java/lang/IllegalStateException", Cond.fieldLink RX3 27 "PlaneFaces" "segments" "LPlaneFaces$Segments;", Cond.fieldLink RX3 28 "PlaneFaces" "stale" "Z", Cond.methodLink RX3 32 yX3_requirePlace, Cond.static yX3_requirePlace, Cond.initialized RX3, Cond.code yX3_requirePlace cX3_requirePlace 2 none, Cond.methodLink RX3 43 yX2_leastFree, Cond.instanceMethod yX2_leastFree, Cond.selects RX2 yX2_leastFree yX2_leastFree, Cond.initialized RX2, Cond.code yX2_leastFree cX2_leastFree 2 (some .int), Cond.fieldLink RX2 18 "PlaneFaces$Segments" "used" "[Z", Cond.methodLink RX3 54 yX2_draw, Cond.instanceMethod yX2_draw, Cond.selects RX2 yX2_draw yX2_draw, Cond.code yX2_draw cX2_draw 6 none, Cond.fieldLink RX2 9 "PlaneFaces$Segments" "x" "[I", Cond.fieldLink RX2 15 "PlaneFaces$Segments" "y" "[I", Cond.methodLink RX3 58 yX2_clashes, Cond.instanceMethod yX2_clashes]
def wsX3_add_r2 : List Cond := [Cond.selects RX2 yX2_clashes yX2_clashes, Cond.code yX2_clashes cX2_clashes 3 (some .boolean), Cond.methodLink RX2 26 yX2_touches, Cond.instanceMethod yX2_touches, Cond.selects RX2 yX2_touches yX2_touches, Cond.code yX2_touches cX2_touches 3 (some .boolean), Cond.methodLink RX2 36 yX2_holds, Cond.instanceMethod yX2_holds, Cond.selects RX2 yX2_holds yX2_holds, Cond.code yX2_holds cX2_holds 8 (some .boolean), Cond.methodLink RX2 46 yX2_side, Cond.instanceMethod yX2_side, Cond.selects RX2 yX2_side yX2_side, Cond.code yX2_side cX2_side 8 (some .long), Cond.methodLink RX2 30 yX2_sameEnds, Cond.instanceMethod yX2_sameEnds, Cond.selects RX2 yX2_sameEnds yX2_sameEnds, Cond.code yX2_sameEnds cX2_sameEnds 3 (some .boolean), Cond.methodLink RX2 40 yX2_sameBegin, Cond.instanceMethod yX2_sameBegin, Cond.selects RX2 yX2_sameBegin yX2_sameBegin, Cond.code yX2_sameBegin cX2_sameBegin 3 (some .boolean), Cond.methodLink RX2 33 yX2_crosses, Cond.instanceMethod yX2_crosses]
def wsX3_add_r3 : List Cond := [Cond.selects RX2 yX2_crosses yX2_crosses, Cond.code yX2_crosses cX2_crosses 3 (some .boolean), Cond.methodLink RX2 43 yX2_parts, Cond.instanceMethod yX2_parts, Cond.selects RX2 yX2_parts yX2_parts, Cond.code yX2_parts cX2_parts 7 (some .boolean), Cond.methodLink RX3 62 yX2_keep, Cond.instanceMethod yX2_keep, Cond.selects RX2 yX2_keep yX2_keep, Cond.code yX2_keep cX2_keep 2 none, Cond.fieldLink RX2 22 "PlaneFaces$Segments" "size" "I"]
def wsX3_add : List Cond := .code yX3_add cX3_add 6 (some .int) :: ((wsX3_add_r1 ++ (wsX3_add_r2 ++ wsX3_add_r3)) ++ wsX30 ++ wsX20 ++ (vx_atS RX3 40 "java/lang/IllegalArgumentException" ["java/lang/RuntimeException", "java/lang/Exception"]).filter goodWord ++ (vx_atS RX3 53 "java/lang/IllegalStateException" ["java/lang/RuntimeException", "java/lang/Exception"]).filter goodWord)
def wsX3_remove : List Cond := .code yX3_remove cX3_remove 2 (some .boolean) :: ([.fieldLink RX3 27 "PlaneFaces" "segments" "LPlaneFaces$Segments;", .fieldLink RX3 28 "PlaneFaces" "stale" "Z", .methodLink RX3 66 yX2_has, .instanceMethod yX2_has, .selects RX2 yX2_has yX2_has, .initialized RX2, .code yX2_has cX2_has 2 (some .boolean), .fieldLink RX2 18 "PlaneFaces$Segments" "used" "[Z", .methodLink RX3 69 yX2_drop, .instanceMethod yX2_drop, .selects RX2 yX2_drop yX2_drop, .code yX2_drop cX2_drop 2 none, .fieldLink RX2 22 "PlaneFaces$Segments" "size" "I"] ++ wsX30 ++ wsX20)
def wsX3_clear : List Cond := .code yX3_clear cX3_clear 2 (some .int) :: ([.fieldLink RX3 27 "PlaneFaces" "segments" "LPlaneFaces$Segments;", .fieldLink RX3 72 "PlaneFaces$Segments" "size" "I", .fieldLink RX3 28 "PlaneFaces" "stale" "Z", .methodLink RX3 76 yX2_dropAll, .instanceMethod yX2_dropAll, .selects RX2 yX2_dropAll yX2_dropAll, .initialized RX2, .code yX2_dropAll cX2_dropAll 2 none, .fieldLink RX2 18 "PlaneFaces$Segments" "used" "[Z", .fieldLink RX2 22 "PlaneFaces$Segments" "size" "I"] ++ wsX30 ++ wsX20)
def wsX3_refresh_r1 : List Cond := [Cond.fieldLink RX3 28 "PlaneFaces" "stale" "Z", Cond.fieldLink RX3 20 "PlaneFaces" "rounds" "LPlaneFaces$Rounds;", Cond.fieldLink RX3 12 "PlaneFaces" "faces" "LPlaneFaces$Faces;", Cond.methodLink RX3 160 yX1_trace, Cond.instanceMethod yX1_trace, Cond.selects RX1 yX1_trace yX1_trace, Cond.initialized RX1, Cond.code yX1_trace cX1_trace 2 none, Cond.fieldLink RX1 22 "PlaneFaces$Rounds" "following" "[I", Cond.fieldLink RX1 12 "PlaneFaces$Rounds" "segments" "LPlaneFaces$Segments;", Cond.fieldLink RX1 54 "PlaneFaces$Segments" "used" "[Z", Cond.methodLink RX1 51 yX1_findCorners, Cond.instanceMethod yX1_findCorners, Cond.selects RX1 yX1_findCorners yX1_findCorners, Cond.code yX1_findCorners cX1_findCorners 2 none, Cond.fieldLink RX1 18 "PlaneFaces$Rounds" "corner" "[I", Cond.fieldLink RX1 71 "PlaneFaces$Segments" "x" "[I", Cond.fieldLink RX1 74 "PlaneFaces$Segments" "y" "[I", Cond.methodLink RX1 77 yX2_leastHalfAt, Cond.instanceMethod yX2_leastHalfAt, Cond.selects RX2 yX2_leastHalfAt yX2_leastHalfAt, Cond.initialized RX2, Cond.code yX2_leastHalfAt cX2_leastHalfAt 4 (some .int), Cond.fieldLink RX2 18 "PlaneFaces$Segments" "used" "[Z"]
def wsX3_refresh_r2 : List Cond := [Cond.fieldLink RX2 9 "PlaneFaces$Segments" "x" "[I", Cond.fieldLink RX2 15 "PlaneFaces$Segments" "y" "[I", Cond.methodLink RX1 58 yX1_firstClockwise, Cond.instanceMethod yX1_firstClockwise, Cond.selects RX1 yX1_firstClockwise yX1_firstClockwise, Cond.code yX1_firstClockwise cX1_firstClockwise 5 (some .int), Cond.methodLink RX1 81 yX2_sooner, Cond.instanceMethod yX2_sooner, Cond.selects RX2 yX2_sooner yX2_sooner, Cond.code yX2_sooner cX2_sooner 6 (some .boolean), Cond.methodLink RX2 50 yX2_turn, Cond.instanceMethod yX2_turn, Cond.selects RX2 yX2_turn yX2_turn, Cond.code yX2_turn cX2_turn 7 (some .long), Cond.methodLink RX2 54 yX2_signOf, Cond.static yX2_signOf, Cond.code yX2_signOf cX2_signOf 2 (some .int), Cond.methodLink RX1 62 yX1_joinPieces, Cond.instanceMethod yX1_joinPieces, Cond.selects RX1 yX1_joinPieces yX1_joinPieces, Cond.code yX1_joinPieces cX1_joinPieces 2 none, Cond.fieldLink RX1 25 "PlaneFaces$Rounds" "root" "[I", Cond.methodLink RX1 85 yX1_joinRoots, Cond.instanceMethod yX1_joinRoots]
def wsX3_refresh_r3 : List Cond := [Cond.selects RX1 yX1_joinRoots yX1_joinRoots, Cond.code yX1_joinRoots cX1_joinRoots 4 none, Cond.methodLink RX1 89 Lib.Math.max.name, Cond.static Lib.Math.max.name, Cond.initialized "java/lang/Math", Cond.code Lib.Math.max.name Lib.Math.max.code 2 (some .int), Cond.methodLink RX1 94 Lib.Math.min.name, Cond.static Lib.Math.min.name, Cond.code Lib.Math.min.name Lib.Math.min.code 2 (some .int), Cond.methodLink RX1 65 yX1_numberPieces, Cond.instanceMethod yX1_numberPieces, Cond.selects RX1 yX1_numberPieces yX1_numberPieces, Cond.code yX1_numberPieces cX1_numberPieces 2 none, Cond.fieldLink RX1 31 "PlaneFaces$Rounds" "pieces" "I", Cond.fieldLink RX1 28 "PlaneFaces$Rounds" "pieceOf" "[I", Cond.methodLink RX1 68 yX1_walkRounds, Cond.instanceMethod yX1_walkRounds, Cond.selects RX1 yX1_walkRounds yX1_walkRounds, Cond.code yX1_walkRounds cX1_walkRounds 2 none, Cond.fieldLink RX1 35 "PlaneFaces$Rounds" "roundOf" "[I", Cond.fieldLink RX1 48 "PlaneFaces$Rounds" "size" "I", Cond.methodLink RX1 97 yJ7_fill_53178, Cond.static yJ7_fill_53178, Cond.initialized RJ7]
def wsX3_refresh_r4 : List Cond := [Cond.code yJ7_fill_53178 cJ7_fill_53178 4 none, Cond.methodLink RX1 103 yX1_walk, Cond.instanceMethod yX1_walk, Cond.selects RX1 yX1_walk yX1_walk, Cond.code yX1_walk cX1_walk 4 none, Cond.fieldLink RX1 38 "PlaneFaces$Rounds" "start" "[I", Cond.fieldLink RX1 41 "PlaneFaces$Rounds" "twice" "[J", Cond.methodLink RX1 107 yX2_sweep, Cond.instanceMethod yX2_sweep, Cond.selects RX2 yX2_sweep yX2_sweep, Cond.code yX2_sweep cX2_sweep 2 (some .long), Cond.methodLink RX3 163 yX0_settle, Cond.instanceMethod yX0_settle, Cond.selects RX0 yX0_settle yX0_settle, Cond.initialized RX0, Cond.code yX0_settle cX0_settle 2 none, Cond.fieldLink RX0 12 "PlaneFaces$Faces" "rounds" "LPlaneFaces$Rounds;", Cond.fieldLink RX0 49 "PlaneFaces$Rounds" "size" "I", Cond.fieldLink RX0 23 "PlaneFaces$Faces" "home" "[I", Cond.fieldLink RX0 33 "PlaneFaces$Faces" "outside" "[I", Cond.fieldLink RX0 30 "PlaneFaces$Faces" "faceOf" "[I", Cond.fieldLink RX0 54 "PlaneFaces$Rounds" "start" "[I", Cond.methodLink RX0 43 yX0_findHomes, Cond.instanceMethod yX0_findHomes]
def wsX3_refresh_r5 : List Cond := [Cond.selects RX0 yX0_findHomes yX0_findHomes, Cond.code yX0_findHomes cX0_findHomes 3 none, Cond.fieldLink RX0 57 "PlaneFaces$Rounds" "twice" "[J", Cond.fieldLink RX0 22 "PlaneFaces$Faces" "segments" "LPlaneFaces$Segments;", Cond.fieldLink RX0 61 "PlaneFaces$Segments" "x" "[I", Cond.fieldLink RX0 66 "PlaneFaces$Segments" "y" "[I", Cond.methodLink RX0 50 yX1_pieceOfRound, Cond.instanceMethod yX1_pieceOfRound, Cond.selects RX1 yX1_pieceOfRound yX1_pieceOfRound, Cond.code yX1_pieceOfRound cX1_pieceOfRound 2 (some .int), Cond.methodLink RX0 69 yX1_enclosing, Cond.instanceMethod yX1_enclosing, Cond.selects RX1 yX1_enclosing yX1_enclosing, Cond.code yX1_enclosing cX1_enclosing 7 (some .int), Cond.fieldLink RX1 45 "PlaneFaces$Rounds" "odd" "[I", Cond.methodLink RX1 111 yX1_markOddRounds, Cond.instanceMethod yX1_markOddRounds, Cond.selects RX1 yX1_markOddRounds yX1_markOddRounds, Cond.code yX1_markOddRounds cX1_markOddRounds 4 none, Cond.methodLink RX1 117 yX2_roofs, Cond.instanceMethod yX2_roofs, Cond.selects RX2 yX2_roofs yX2_roofs, Cond.code yX2_roofs cX2_roofs 5 (some .boolean), Cond.methodLink RX2 58 yX2_rightward]
def wsX3_refresh_r6 : List Cond := [Cond.instanceMethod yX2_rightward, Cond.selects RX2 yX2_rightward yX2_rightward, Cond.code yX2_rightward cX2_rightward 2 (some .int), Cond.methodLink RX2 46 yX2_side, Cond.instanceMethod yX2_side, Cond.selects RX2 yX2_side yX2_side, Cond.code yX2_side cX2_side 8 (some .long), Cond.methodLink RX1 114 yX1_pieceOfRound, Cond.methodLink RX0 46 yX0_numberFaces, Cond.instanceMethod yX0_numberFaces, Cond.selects RX0 yX0_numberFaces yX0_numberFaces, Cond.code yX0_numberFaces cX0_numberFaces 3 none, Cond.fieldLink RX0 27 "PlaneFaces$Faces" "number" "[I", Cond.fieldLink RX0 39 "PlaneFaces$Faces" "size" "I", Cond.fieldLink RX0 79 "PlaneFaces$Segments" "used" "[Z", Cond.fieldLink RX0 83 "PlaneFaces$Rounds" "roundOf" "[I", Cond.methodLink RX0 73 yJ7_fill_53178, Cond.methodLink RX0 86 yX0_faceWithin, Cond.instanceMethod yX0_faceWithin, Cond.selects RX0 yX0_faceWithin yX0_faceWithin, Cond.code yX0_faceWithin cX0_faceWithin 2 (some .int)]
def wsX3_refresh : List Cond := .code yX3_refresh cX3_refresh 1 none :: ((wsX3_refresh_r1 ++ (wsX3_refresh_r2 ++ (wsX3_refresh_r3 ++ (wsX3_refresh_r4 ++ (wsX3_refresh_r5 ++ wsX3_refresh_r6))))) ++ wsX30 ++ wsX10 ++ wsX20 ++ wsX00)
def wsX3_count_r1 : List Cond := [Cond.fieldLink RX3 27 "PlaneFaces" "segments" "LPlaneFaces$Segments;", Cond.fieldLink RX3 72 "PlaneFaces$Segments" "size" "I", Cond.fieldLink RX3 20 "PlaneFaces" "rounds" "LPlaneFaces$Rounds;", Cond.fieldLink RX3 12 "PlaneFaces" "faces" "LPlaneFaces$Faces;", Cond.fieldLink RX3 85 "PlaneFaces$Faces" "size" "I", Cond.fieldLink RX3 86 "PlaneFaces$Rounds" "pieces" "I", Cond.fieldLink RX3 92 "PlaneFaces$Rounds" "size" "I", Cond.methodLink RX3 79 yX3_refresh, Cond.instanceMethod yX3_refresh, Cond.selects RX3 yX3_refresh yX3_refresh, Cond.initialized RX3, Cond.code yX3_refresh cX3_refresh 1 none, Cond.fieldLink RX3 28 "PlaneFaces" "stale" "Z", Cond.methodLink RX3 160 yX1_trace, Cond.instanceMethod yX1_trace, Cond.selects RX1 yX1_trace yX1_trace, Cond.initialized RX1, Cond.code yX1_trace cX1_trace 2 none, Cond.fieldLink RX1 22 "PlaneFaces$Rounds" "following" "[I", Cond.fieldLink RX1 12 "PlaneFaces$Rounds" "segments" "LPlaneFaces$Segments;", Cond.fieldLink RX1 54 "PlaneFaces$Segments" "used" "[Z", Cond.methodLink RX1 51 yX1_findCorners, Cond.instanceMethod yX1_findCorners, Cond.selects RX1 yX1_findCorners yX1_findCorners]
def wsX3_count_r2 : List Cond := [Cond.code yX1_findCorners cX1_findCorners 2 none, Cond.fieldLink RX1 18 "PlaneFaces$Rounds" "corner" "[I", Cond.fieldLink RX1 71 "PlaneFaces$Segments" "x" "[I", Cond.fieldLink RX1 74 "PlaneFaces$Segments" "y" "[I", Cond.methodLink RX1 77 yX2_leastHalfAt, Cond.instanceMethod yX2_leastHalfAt, Cond.selects RX2 yX2_leastHalfAt yX2_leastHalfAt, Cond.initialized RX2, Cond.code yX2_leastHalfAt cX2_leastHalfAt 4 (some .int), Cond.fieldLink RX2 18 "PlaneFaces$Segments" "used" "[Z", Cond.fieldLink RX2 9 "PlaneFaces$Segments" "x" "[I", Cond.fieldLink RX2 15 "PlaneFaces$Segments" "y" "[I", Cond.methodLink RX1 58 yX1_firstClockwise, Cond.instanceMethod yX1_firstClockwise, Cond.selects RX1 yX1_firstClockwise yX1_firstClockwise, Cond.code yX1_firstClockwise cX1_firstClockwise 5 (some .int), Cond.methodLink RX1 81 yX2_sooner, Cond.instanceMethod yX2_sooner, Cond.selects RX2 yX2_sooner yX2_sooner, Cond.code yX2_sooner cX2_sooner 6 (some .boolean), Cond.methodLink RX2 50 yX2_turn, Cond.instanceMethod yX2_turn, Cond.selects RX2 yX2_turn yX2_turn, Cond.code yX2_turn cX2_turn 7 (some .long)]
def wsX3_count_r3 : List Cond := [Cond.methodLink RX2 54 yX2_signOf, Cond.static yX2_signOf, Cond.code yX2_signOf cX2_signOf 2 (some .int), Cond.methodLink RX1 62 yX1_joinPieces, Cond.instanceMethod yX1_joinPieces, Cond.selects RX1 yX1_joinPieces yX1_joinPieces, Cond.code yX1_joinPieces cX1_joinPieces 2 none, Cond.fieldLink RX1 25 "PlaneFaces$Rounds" "root" "[I", Cond.methodLink RX1 85 yX1_joinRoots, Cond.instanceMethod yX1_joinRoots, Cond.selects RX1 yX1_joinRoots yX1_joinRoots, Cond.code yX1_joinRoots cX1_joinRoots 4 none, Cond.methodLink RX1 89 Lib.Math.max.name, Cond.static Lib.Math.max.name, Cond.initialized "java/lang/Math", Cond.code Lib.Math.max.name Lib.Math.max.code 2 (some .int), Cond.methodLink RX1 94 Lib.Math.min.name, Cond.static Lib.Math.min.name, Cond.code Lib.Math.min.name Lib.Math.min.code 2 (some .int), Cond.methodLink RX1 65 yX1_numberPieces, Cond.instanceMethod yX1_numberPieces, Cond.selects RX1 yX1_numberPieces yX1_numberPieces, Cond.code yX1_numberPieces cX1_numberPieces 2 none, Cond.fieldLink RX1 31 "PlaneFaces$Rounds" "pieces" "I"]
def wsX3_count_r4 : List Cond := [Cond.fieldLink RX1 28 "PlaneFaces$Rounds" "pieceOf" "[I", Cond.methodLink RX1 68 yX1_walkRounds, Cond.instanceMethod yX1_walkRounds, Cond.selects RX1 yX1_walkRounds yX1_walkRounds, Cond.code yX1_walkRounds cX1_walkRounds 2 none, Cond.fieldLink RX1 35 "PlaneFaces$Rounds" "roundOf" "[I", Cond.fieldLink RX1 48 "PlaneFaces$Rounds" "size" "I", Cond.methodLink RX1 97 yJ7_fill_53178, Cond.static yJ7_fill_53178, Cond.initialized RJ7, Cond.code yJ7_fill_53178 cJ7_fill_53178 4 none, Cond.methodLink RX1 103 yX1_walk, Cond.instanceMethod yX1_walk, Cond.selects RX1 yX1_walk yX1_walk, Cond.code yX1_walk cX1_walk 4 none, Cond.fieldLink RX1 38 "PlaneFaces$Rounds" "start" "[I", Cond.fieldLink RX1 41 "PlaneFaces$Rounds" "twice" "[J", Cond.methodLink RX1 107 yX2_sweep, Cond.instanceMethod yX2_sweep, Cond.selects RX2 yX2_sweep yX2_sweep, Cond.code yX2_sweep cX2_sweep 2 (some .long), Cond.methodLink RX3 163 yX0_settle, Cond.instanceMethod yX0_settle, Cond.selects RX0 yX0_settle yX0_settle]
def wsX3_count_r5 : List Cond := [Cond.initialized RX0, Cond.code yX0_settle cX0_settle 2 none, Cond.fieldLink RX0 12 "PlaneFaces$Faces" "rounds" "LPlaneFaces$Rounds;", Cond.fieldLink RX0 49 "PlaneFaces$Rounds" "size" "I", Cond.fieldLink RX0 23 "PlaneFaces$Faces" "home" "[I", Cond.fieldLink RX0 33 "PlaneFaces$Faces" "outside" "[I", Cond.fieldLink RX0 30 "PlaneFaces$Faces" "faceOf" "[I", Cond.fieldLink RX0 54 "PlaneFaces$Rounds" "start" "[I", Cond.methodLink RX0 43 yX0_findHomes, Cond.instanceMethod yX0_findHomes, Cond.selects RX0 yX0_findHomes yX0_findHomes, Cond.code yX0_findHomes cX0_findHomes 3 none, Cond.fieldLink RX0 57 "PlaneFaces$Rounds" "twice" "[J", Cond.fieldLink RX0 22 "PlaneFaces$Faces" "segments" "LPlaneFaces$Segments;", Cond.fieldLink RX0 61 "PlaneFaces$Segments" "x" "[I", Cond.fieldLink RX0 66 "PlaneFaces$Segments" "y" "[I", Cond.methodLink RX0 50 yX1_pieceOfRound, Cond.instanceMethod yX1_pieceOfRound, Cond.selects RX1 yX1_pieceOfRound yX1_pieceOfRound, Cond.code yX1_pieceOfRound cX1_pieceOfRound 2 (some .int), Cond.methodLink RX0 69 yX1_enclosing, Cond.instanceMethod yX1_enclosing, Cond.selects RX1 yX1_enclosing yX1_enclosing, Cond.code yX1_enclosing cX1_enclosing 7 (some .int)]
def wsX3_count_r6 : List Cond := [Cond.fieldLink RX1 45 "PlaneFaces$Rounds" "odd" "[I", Cond.methodLink RX1 111 yX1_markOddRounds, Cond.instanceMethod yX1_markOddRounds, Cond.selects RX1 yX1_markOddRounds yX1_markOddRounds, Cond.code yX1_markOddRounds cX1_markOddRounds 4 none, Cond.methodLink RX1 117 yX2_roofs, Cond.instanceMethod yX2_roofs, Cond.selects RX2 yX2_roofs yX2_roofs, Cond.code yX2_roofs cX2_roofs 5 (some .boolean), Cond.methodLink RX2 58 yX2_rightward, Cond.instanceMethod yX2_rightward, Cond.selects RX2 yX2_rightward yX2_rightward, Cond.code yX2_rightward cX2_rightward 2 (some .int), Cond.methodLink RX2 46 yX2_side, Cond.instanceMethod yX2_side, Cond.selects RX2 yX2_side yX2_side, Cond.code yX2_side cX2_side 8 (some .long), Cond.methodLink RX1 114 yX1_pieceOfRound, Cond.methodLink RX0 46 yX0_numberFaces, Cond.instanceMethod yX0_numberFaces, Cond.selects RX0 yX0_numberFaces yX0_numberFaces, Cond.code yX0_numberFaces cX0_numberFaces 3 none, Cond.fieldLink RX0 27 "PlaneFaces$Faces" "number" "[I", Cond.fieldLink RX0 39 "PlaneFaces$Faces" "size" "I"]
def wsX3_count_r7 : List Cond := [Cond.fieldLink RX0 79 "PlaneFaces$Segments" "used" "[Z", Cond.fieldLink RX0 83 "PlaneFaces$Rounds" "roundOf" "[I", Cond.methodLink RX0 73 yJ7_fill_53178, Cond.methodLink RX0 86 yX0_faceWithin, Cond.instanceMethod yX0_faceWithin, Cond.selects RX0 yX0_faceWithin yX0_faceWithin, Cond.code yX0_faceWithin cX0_faceWithin 2 (some .int), Cond.methodLink RX3 82 yX1_corners, Cond.instanceMethod yX1_corners, Cond.selects RX1 yX1_corners yX1_corners, Cond.code yX1_corners cX1_corners 3 (some .int), Cond.methodLink RX3 89 yX0_bridges, Cond.instanceMethod yX0_bridges, Cond.selects RX0 yX0_bridges yX0_bridges, Cond.code yX0_bridges cX0_bridges 3 (some .int)]
def wsX3_count : List Cond := .code yX3_count cX3_count 2 (some .int) :: ((wsX3_count_r1 ++ (wsX3_count_r2 ++ (wsX3_count_r3 ++ (wsX3_count_r4 ++ (wsX3_count_r5 ++ (wsX3_count_r6 ++ wsX3_count_r7)))))) ++ wsX30 ++ wsX20 ++ wsX00 ++ wsX10)
def wsX3_requireHalf : List Cond := .code yX3_requireHalf cX3_requireHalf 2 none :: ([.classLink RX3 112 "java/lang/IndexOutOfBoundsException", .initialized "java/lang/IndexOutOfBoundsException", .fieldLink RX3 27 "PlaneFaces" "segments" "LPlaneFaces$Segments;", .methodLink RX3 66 yX2_has, .instanceMethod yX2_has, .selects RX2 yX2_has yX2_has, .initialized RX2, .code yX2_has cX2_has 2 (some .boolean), .fieldLink RX2 18 "PlaneFaces$Segments" "used" "[Z"] ++ wsX30 ++ wsX20 ++ (vx_atS RX3 116 "java/lang/IndexOutOfBoundsException" ["java/lang/RuntimeException", "java/lang/Exception"]).filter goodWord)
def wsX3_begins : List Cond := .code yX3_begins cX3_begins 3 (some .int) :: ([.fieldLink RX3 27 "PlaneFaces" "segments" "LPlaneFaces$Segments;", .fieldLink RX3 96 "PlaneFaces$Segments" "y" "[I", .fieldLink RX3 100 "PlaneFaces$Segments" "x" "[I", .methodLink RX3 93 yX3_requireHalf, .instanceMethod yX3_requireHalf, .selects RX3 yX3_requireHalf yX3_requireHalf, .initialized RX3, .code yX3_requireHalf cX3_requireHalf 2 none, .classLink RX3 112 "java/lang/IndexOutOfBoundsException", .initialized "java/lang/IndexOutOfBoundsException", .methodLink RX3 66 yX2_has, .instanceMethod yX2_has, .selects RX2 yX2_has yX2_has, .initialized RX2, .code yX2_has cX2_has 2 (some .boolean), .fieldLink RX2 18 "PlaneFaces$Segments" "used" "[Z"] ++ wsX30 ++ wsX20 ++ (vx_atS RX3 116 "java/lang/IndexOutOfBoundsException" ["java/lang/RuntimeException", "java/lang/Exception"]).filter goodWord)
def wsX3_next_r1 : List Cond := [Cond.fieldLink RX3 20 "PlaneFaces" "rounds" "LPlaneFaces$Rounds;", Cond.fieldLink RX3 103 "PlaneFaces$Rounds" "following" "[I", Cond.methodLink RX3 93 yX3_requireHalf, Cond.instanceMethod yX3_requireHalf, Cond.selects RX3 yX3_requireHalf yX3_requireHalf, Cond.initialized RX3, Cond.code yX3_requireHalf cX3_requireHalf 2 none, Cond.classLink RX3 112 "java/lang/IndexOutOfBoundsException", Cond.initialized "java/lang/IndexOutOfBoundsException", Cond.fieldLink RX3 27 "PlaneFaces" "segments" "LPlaneFaces$Segments;", Cond.methodLink RX3 66 yX2_has, Cond.instanceMethod yX2_has, Cond.selects RX2 yX2_has yX2_has, Cond.initialized RX2, Cond.code yX2_has cX2_has 2 (some .boolean), Cond.fieldLink RX2 18 "PlaneFaces$Segments" "used" "[Z", Cond.methodLink RX3 79 yX3_refresh, Cond.instanceMethod yX3_refresh, Cond.selects RX3 yX3_refresh yX3_refresh, Cond.code yX3_refresh cX3_refresh 1 none, Cond.fieldLink RX3 28 "PlaneFaces" "stale" "Z", Cond.fieldLink RX3 12 "PlaneFaces" "faces" "LPlaneFaces$Faces;", Cond.methodLink RX3 160 yX1_trace, Cond.instanceMethod yX1_trace]
def wsX3_next_r2 : List Cond := [Cond.selects RX1 yX1_trace yX1_trace, Cond.initialized RX1, Cond.code yX1_trace cX1_trace 2 none, Cond.fieldLink RX1 22 "PlaneFaces$Rounds" "following" "[I", Cond.fieldLink RX1 12 "PlaneFaces$Rounds" "segments" "LPlaneFaces$Segments;", Cond.fieldLink RX1 54 "PlaneFaces$Segments" "used" "[Z", Cond.methodLink RX1 51 yX1_findCorners, Cond.instanceMethod yX1_findCorners, Cond.selects RX1 yX1_findCorners yX1_findCorners, Cond.code yX1_findCorners cX1_findCorners 2 none, Cond.fieldLink RX1 18 "PlaneFaces$Rounds" "corner" "[I", Cond.fieldLink RX1 71 "PlaneFaces$Segments" "x" "[I", Cond.fieldLink RX1 74 "PlaneFaces$Segments" "y" "[I", Cond.methodLink RX1 77 yX2_leastHalfAt, Cond.instanceMethod yX2_leastHalfAt, Cond.selects RX2 yX2_leastHalfAt yX2_leastHalfAt, Cond.code yX2_leastHalfAt cX2_leastHalfAt 4 (some .int), Cond.fieldLink RX2 9 "PlaneFaces$Segments" "x" "[I", Cond.fieldLink RX2 15 "PlaneFaces$Segments" "y" "[I", Cond.methodLink RX1 58 yX1_firstClockwise, Cond.instanceMethod yX1_firstClockwise, Cond.selects RX1 yX1_firstClockwise yX1_firstClockwise, Cond.code yX1_firstClockwise cX1_firstClockwise 5 (some .int), Cond.methodLink RX1 81 yX2_sooner]
def wsX3_next_r3 : List Cond := [Cond.instanceMethod yX2_sooner, Cond.selects RX2 yX2_sooner yX2_sooner, Cond.code yX2_sooner cX2_sooner 6 (some .boolean), Cond.methodLink RX2 50 yX2_turn, Cond.instanceMethod yX2_turn, Cond.selects RX2 yX2_turn yX2_turn, Cond.code yX2_turn cX2_turn 7 (some .long), Cond.methodLink RX2 54 yX2_signOf, Cond.static yX2_signOf, Cond.code yX2_signOf cX2_signOf 2 (some .int), Cond.methodLink RX1 62 yX1_joinPieces, Cond.instanceMethod yX1_joinPieces, Cond.selects RX1 yX1_joinPieces yX1_joinPieces, Cond.code yX1_joinPieces cX1_joinPieces 2 none, Cond.fieldLink RX1 25 "PlaneFaces$Rounds" "root" "[I", Cond.methodLink RX1 85 yX1_joinRoots, Cond.instanceMethod yX1_joinRoots, Cond.selects RX1 yX1_joinRoots yX1_joinRoots, Cond.code yX1_joinRoots cX1_joinRoots 4 none, Cond.methodLink RX1 89 Lib.Math.max.name, Cond.static Lib.Math.max.name, Cond.initialized "java/lang/Math", Cond.code Lib.Math.max.name Lib.Math.max.code 2 (some .int), Cond.methodLink RX1 94 Lib.Math.min.name]
def wsX3_next_r4 : List Cond := [Cond.static Lib.Math.min.name, Cond.code Lib.Math.min.name Lib.Math.min.code 2 (some .int), Cond.methodLink RX1 65 yX1_numberPieces, Cond.instanceMethod yX1_numberPieces, Cond.selects RX1 yX1_numberPieces yX1_numberPieces, Cond.code yX1_numberPieces cX1_numberPieces 2 none, Cond.fieldLink RX1 31 "PlaneFaces$Rounds" "pieces" "I", Cond.fieldLink RX1 28 "PlaneFaces$Rounds" "pieceOf" "[I", Cond.methodLink RX1 68 yX1_walkRounds, Cond.instanceMethod yX1_walkRounds, Cond.selects RX1 yX1_walkRounds yX1_walkRounds, Cond.code yX1_walkRounds cX1_walkRounds 2 none, Cond.fieldLink RX1 35 "PlaneFaces$Rounds" "roundOf" "[I", Cond.fieldLink RX1 48 "PlaneFaces$Rounds" "size" "I", Cond.methodLink RX1 97 yJ7_fill_53178, Cond.static yJ7_fill_53178, Cond.initialized RJ7, Cond.code yJ7_fill_53178 cJ7_fill_53178 4 none, Cond.methodLink RX1 103 yX1_walk, Cond.instanceMethod yX1_walk, Cond.selects RX1 yX1_walk yX1_walk, Cond.code yX1_walk cX1_walk 4 none, Cond.fieldLink RX1 38 "PlaneFaces$Rounds" "start" "[I", Cond.fieldLink RX1 41 "PlaneFaces$Rounds" "twice" "[J"]
def wsX3_next_r5 : List Cond := [Cond.methodLink RX1 107 yX2_sweep, Cond.instanceMethod yX2_sweep, Cond.selects RX2 yX2_sweep yX2_sweep, Cond.code yX2_sweep cX2_sweep 2 (some .long), Cond.methodLink RX3 163 yX0_settle, Cond.instanceMethod yX0_settle, Cond.selects RX0 yX0_settle yX0_settle, Cond.initialized RX0, Cond.code yX0_settle cX0_settle 2 none, Cond.fieldLink RX0 12 "PlaneFaces$Faces" "rounds" "LPlaneFaces$Rounds;", Cond.fieldLink RX0 49 "PlaneFaces$Rounds" "size" "I", Cond.fieldLink RX0 23 "PlaneFaces$Faces" "home" "[I", Cond.fieldLink RX0 33 "PlaneFaces$Faces" "outside" "[I", Cond.fieldLink RX0 30 "PlaneFaces$Faces" "faceOf" "[I", Cond.fieldLink RX0 54 "PlaneFaces$Rounds" "start" "[I", Cond.methodLink RX0 43 yX0_findHomes, Cond.instanceMethod yX0_findHomes, Cond.selects RX0 yX0_findHomes yX0_findHomes, Cond.code yX0_findHomes cX0_findHomes 3 none, Cond.fieldLink RX0 57 "PlaneFaces$Rounds" "twice" "[J", Cond.fieldLink RX0 22 "PlaneFaces$Faces" "segments" "LPlaneFaces$Segments;", Cond.fieldLink RX0 61 "PlaneFaces$Segments" "x" "[I", Cond.fieldLink RX0 66 "PlaneFaces$Segments" "y" "[I", Cond.methodLink RX0 50 yX1_pieceOfRound]
def wsX3_next_r6 : List Cond := [Cond.instanceMethod yX1_pieceOfRound, Cond.selects RX1 yX1_pieceOfRound yX1_pieceOfRound, Cond.code yX1_pieceOfRound cX1_pieceOfRound 2 (some .int), Cond.methodLink RX0 69 yX1_enclosing, Cond.instanceMethod yX1_enclosing, Cond.selects RX1 yX1_enclosing yX1_enclosing, Cond.code yX1_enclosing cX1_enclosing 7 (some .int), Cond.fieldLink RX1 45 "PlaneFaces$Rounds" "odd" "[I", Cond.methodLink RX1 111 yX1_markOddRounds, Cond.instanceMethod yX1_markOddRounds, Cond.selects RX1 yX1_markOddRounds yX1_markOddRounds, Cond.code yX1_markOddRounds cX1_markOddRounds 4 none, Cond.methodLink RX1 117 yX2_roofs, Cond.instanceMethod yX2_roofs, Cond.selects RX2 yX2_roofs yX2_roofs, Cond.code yX2_roofs cX2_roofs 5 (some .boolean), Cond.methodLink RX2 58 yX2_rightward, Cond.instanceMethod yX2_rightward, Cond.selects RX2 yX2_rightward yX2_rightward, Cond.code yX2_rightward cX2_rightward 2 (some .int), Cond.methodLink RX2 46 yX2_side, Cond.instanceMethod yX2_side, Cond.selects RX2 yX2_side yX2_side, Cond.code yX2_side cX2_side 8 (some .long)]
def wsX3_next_r7 : List Cond := [Cond.methodLink RX1 114 yX1_pieceOfRound, Cond.methodLink RX0 46 yX0_numberFaces, Cond.instanceMethod yX0_numberFaces, Cond.selects RX0 yX0_numberFaces yX0_numberFaces, Cond.code yX0_numberFaces cX0_numberFaces 3 none, Cond.fieldLink RX0 27 "PlaneFaces$Faces" "number" "[I", Cond.fieldLink RX0 39 "PlaneFaces$Faces" "size" "I", Cond.fieldLink RX0 79 "PlaneFaces$Segments" "used" "[Z", Cond.fieldLink RX0 83 "PlaneFaces$Rounds" "roundOf" "[I", Cond.methodLink RX0 73 yJ7_fill_53178, Cond.methodLink RX0 86 yX0_faceWithin, Cond.instanceMethod yX0_faceWithin, Cond.selects RX0 yX0_faceWithin yX0_faceWithin, Cond.code yX0_faceWithin cX0_faceWithin 2 (some .int)]
def wsX3_next : List Cond := .code yX3_next cX3_next 2 (some .int) :: ((wsX3_next_r1 ++ (wsX3_next_r2 ++ (wsX3_next_r3 ++ (wsX3_next_r4 ++ (wsX3_next_r5 ++ (wsX3_next_r6 ++ wsX3_next_r7)))))) ++ wsX30 ++ wsX10 ++ wsX20 ++ wsX00 ++ (vx_atS RX3 116 "java/lang/IndexOutOfBoundsException" ["java/lang/RuntimeException", "java/lang/Exception"]).filter goodWord)
def wsX3_face_r1 : List Cond := [Cond.fieldLink RX3 12 "PlaneFaces" "faces" "LPlaneFaces$Faces;", Cond.fieldLink RX3 106 "PlaneFaces$Faces" "faceOf" "[I", Cond.methodLink RX3 93 yX3_requireHalf, Cond.instanceMethod yX3_requireHalf, Cond.selects RX3 yX3_requireHalf yX3_requireHalf, Cond.initialized RX3, Cond.code yX3_requireHalf cX3_requireHalf 2 none, Cond.classLink RX3 112 "java/lang/IndexOutOfBoundsException", Cond.initialized "java/lang/IndexOutOfBoundsException", Cond.fieldLink RX3 27 "PlaneFaces" "segments" "LPlaneFaces$Segments;", Cond.methodLink RX3 66 yX2_has, Cond.instanceMethod yX2_has, Cond.selects RX2 yX2_has yX2_has, Cond.initialized RX2, Cond.code yX2_has cX2_has 2 (some .boolean), Cond.fieldLink RX2 18 "PlaneFaces$Segments" "used" "[Z", Cond.methodLink RX3 79 yX3_refresh, Cond.instanceMethod yX3_refresh, Cond.selects RX3 yX3_refresh yX3_refresh, Cond.code yX3_refresh cX3_refresh 1 none, Cond.fieldLink RX3 28 "PlaneFaces" "stale" "Z", Cond.fieldLink RX3 20 "PlaneFaces" "rounds" "LPlaneFaces$Rounds;", Cond.methodLink RX3 160 yX1_trace, Cond.instanceMethod yX1_trace]
def wsX3_face_r2 : List Cond := [Cond.selects RX1 yX1_trace yX1_trace, Cond.initialized RX1, Cond.code yX1_trace cX1_trace 2 none, Cond.fieldLink RX1 22 "PlaneFaces$Rounds" "following" "[I", Cond.fieldLink RX1 12 "PlaneFaces$Rounds" "segments" "LPlaneFaces$Segments;", Cond.fieldLink RX1 54 "PlaneFaces$Segments" "used" "[Z", Cond.methodLink RX1 51 yX1_findCorners, Cond.instanceMethod yX1_findCorners, Cond.selects RX1 yX1_findCorners yX1_findCorners, Cond.code yX1_findCorners cX1_findCorners 2 none, Cond.fieldLink RX1 18 "PlaneFaces$Rounds" "corner" "[I", Cond.fieldLink RX1 71 "PlaneFaces$Segments" "x" "[I", Cond.fieldLink RX1 74 "PlaneFaces$Segments" "y" "[I", Cond.methodLink RX1 77 yX2_leastHalfAt, Cond.instanceMethod yX2_leastHalfAt, Cond.selects RX2 yX2_leastHalfAt yX2_leastHalfAt, Cond.code yX2_leastHalfAt cX2_leastHalfAt 4 (some .int), Cond.fieldLink RX2 9 "PlaneFaces$Segments" "x" "[I", Cond.fieldLink RX2 15 "PlaneFaces$Segments" "y" "[I", Cond.methodLink RX1 58 yX1_firstClockwise, Cond.instanceMethod yX1_firstClockwise, Cond.selects RX1 yX1_firstClockwise yX1_firstClockwise, Cond.code yX1_firstClockwise cX1_firstClockwise 5 (some .int), Cond.methodLink RX1 81 yX2_sooner]
def wsX3_face_r3 : List Cond := [Cond.instanceMethod yX2_sooner, Cond.selects RX2 yX2_sooner yX2_sooner, Cond.code yX2_sooner cX2_sooner 6 (some .boolean), Cond.methodLink RX2 50 yX2_turn, Cond.instanceMethod yX2_turn, Cond.selects RX2 yX2_turn yX2_turn, Cond.code yX2_turn cX2_turn 7 (some .long), Cond.methodLink RX2 54 yX2_signOf, Cond.static yX2_signOf, Cond.code yX2_signOf cX2_signOf 2 (some .int), Cond.methodLink RX1 62 yX1_joinPieces, Cond.instanceMethod yX1_joinPieces, Cond.selects RX1 yX1_joinPieces yX1_joinPieces, Cond.code yX1_joinPieces cX1_joinPieces 2 none, Cond.fieldLink RX1 25 "PlaneFaces$Rounds" "root" "[I", Cond.methodLink RX1 85 yX1_joinRoots, Cond.instanceMethod yX1_joinRoots, Cond.selects RX1 yX1_joinRoots yX1_joinRoots, Cond.code yX1_joinRoots cX1_joinRoots 4 none, Cond.methodLink RX1 89 Lib.Math.max.name, Cond.static Lib.Math.max.name, Cond.initialized "java/lang/Math", Cond.code Lib.Math.max.name Lib.Math.max.code 2 (some .int), Cond.methodLink RX1 94 Lib.Math.min.name]
def wsX3_face_r4 : List Cond := [Cond.static Lib.Math.min.name, Cond.code Lib.Math.min.name Lib.Math.min.code 2 (some .int), Cond.methodLink RX1 65 yX1_numberPieces, Cond.instanceMethod yX1_numberPieces, Cond.selects RX1 yX1_numberPieces yX1_numberPieces, Cond.code yX1_numberPieces cX1_numberPieces 2 none, Cond.fieldLink RX1 31 "PlaneFaces$Rounds" "pieces" "I", Cond.fieldLink RX1 28 "PlaneFaces$Rounds" "pieceOf" "[I", Cond.methodLink RX1 68 yX1_walkRounds, Cond.instanceMethod yX1_walkRounds, Cond.selects RX1 yX1_walkRounds yX1_walkRounds, Cond.code yX1_walkRounds cX1_walkRounds 2 none, Cond.fieldLink RX1 35 "PlaneFaces$Rounds" "roundOf" "[I", Cond.fieldLink RX1 48 "PlaneFaces$Rounds" "size" "I", Cond.methodLink RX1 97 yJ7_fill_53178, Cond.static yJ7_fill_53178, Cond.initialized RJ7, Cond.code yJ7_fill_53178 cJ7_fill_53178 4 none, Cond.methodLink RX1 103 yX1_walk, Cond.instanceMethod yX1_walk, Cond.selects RX1 yX1_walk yX1_walk, Cond.code yX1_walk cX1_walk 4 none, Cond.fieldLink RX1 38 "PlaneFaces$Rounds" "start" "[I", Cond.fieldLink RX1 41 "PlaneFaces$Rounds" "twice" "[J"]
def wsX3_face_r5 : List Cond := [Cond.methodLink RX1 107 yX2_sweep, Cond.instanceMethod yX2_sweep, Cond.selects RX2 yX2_sweep yX2_sweep, Cond.code yX2_sweep cX2_sweep 2 (some .long), Cond.methodLink RX3 163 yX0_settle, Cond.instanceMethod yX0_settle, Cond.selects RX0 yX0_settle yX0_settle, Cond.initialized RX0, Cond.code yX0_settle cX0_settle 2 none, Cond.fieldLink RX0 12 "PlaneFaces$Faces" "rounds" "LPlaneFaces$Rounds;", Cond.fieldLink RX0 49 "PlaneFaces$Rounds" "size" "I", Cond.fieldLink RX0 23 "PlaneFaces$Faces" "home" "[I", Cond.fieldLink RX0 33 "PlaneFaces$Faces" "outside" "[I", Cond.fieldLink RX0 30 "PlaneFaces$Faces" "faceOf" "[I", Cond.fieldLink RX0 54 "PlaneFaces$Rounds" "start" "[I", Cond.methodLink RX0 43 yX0_findHomes, Cond.instanceMethod yX0_findHomes, Cond.selects RX0 yX0_findHomes yX0_findHomes, Cond.code yX0_findHomes cX0_findHomes 3 none, Cond.fieldLink RX0 57 "PlaneFaces$Rounds" "twice" "[J", Cond.fieldLink RX0 22 "PlaneFaces$Faces" "segments" "LPlaneFaces$Segments;", Cond.fieldLink RX0 61 "PlaneFaces$Segments" "x" "[I", Cond.fieldLink RX0 66 "PlaneFaces$Segments" "y" "[I", Cond.methodLink RX0 50 yX1_pieceOfRound]
def wsX3_face_r6 : List Cond := [Cond.instanceMethod yX1_pieceOfRound, Cond.selects RX1 yX1_pieceOfRound yX1_pieceOfRound, Cond.code yX1_pieceOfRound cX1_pieceOfRound 2 (some .int), Cond.methodLink RX0 69 yX1_enclosing, Cond.instanceMethod yX1_enclosing, Cond.selects RX1 yX1_enclosing yX1_enclosing, Cond.code yX1_enclosing cX1_enclosing 7 (some .int), Cond.fieldLink RX1 45 "PlaneFaces$Rounds" "odd" "[I", Cond.methodLink RX1 111 yX1_markOddRounds, Cond.instanceMethod yX1_markOddRounds, Cond.selects RX1 yX1_markOddRounds yX1_markOddRounds, Cond.code yX1_markOddRounds cX1_markOddRounds 4 none, Cond.methodLink RX1 117 yX2_roofs, Cond.instanceMethod yX2_roofs, Cond.selects RX2 yX2_roofs yX2_roofs, Cond.code yX2_roofs cX2_roofs 5 (some .boolean), Cond.methodLink RX2 58 yX2_rightward, Cond.instanceMethod yX2_rightward, Cond.selects RX2 yX2_rightward yX2_rightward, Cond.code yX2_rightward cX2_rightward 2 (some .int), Cond.methodLink RX2 46 yX2_side, Cond.instanceMethod yX2_side, Cond.selects RX2 yX2_side yX2_side, Cond.code yX2_side cX2_side 8 (some .long)]
def wsX3_face_r7 : List Cond := [Cond.methodLink RX1 114 yX1_pieceOfRound, Cond.methodLink RX0 46 yX0_numberFaces, Cond.instanceMethod yX0_numberFaces, Cond.selects RX0 yX0_numberFaces yX0_numberFaces, Cond.code yX0_numberFaces cX0_numberFaces 3 none, Cond.fieldLink RX0 27 "PlaneFaces$Faces" "number" "[I", Cond.fieldLink RX0 39 "PlaneFaces$Faces" "size" "I", Cond.fieldLink RX0 79 "PlaneFaces$Segments" "used" "[Z", Cond.fieldLink RX0 83 "PlaneFaces$Rounds" "roundOf" "[I", Cond.methodLink RX0 73 yJ7_fill_53178, Cond.methodLink RX0 86 yX0_faceWithin, Cond.instanceMethod yX0_faceWithin, Cond.selects RX0 yX0_faceWithin yX0_faceWithin, Cond.code yX0_faceWithin cX0_faceWithin 2 (some .int)]
def wsX3_face : List Cond := .code yX3_face cX3_face 2 (some .int) :: ((wsX3_face_r1 ++ (wsX3_face_r2 ++ (wsX3_face_r3 ++ (wsX3_face_r4 ++ (wsX3_face_r5 ++ (wsX3_face_r6 ++ wsX3_face_r7)))))) ++ wsX30 ++ wsX00 ++ wsX20 ++ wsX10 ++ (vx_atS RX3 116 "java/lang/IndexOutOfBoundsException" ["java/lang/RuntimeException", "java/lang/Exception"]).filter goodWord)
def wsX3_piece_r1 : List Cond := [Cond.fieldLink RX3 20 "PlaneFaces" "rounds" "LPlaneFaces$Rounds;", Cond.fieldLink RX3 109 "PlaneFaces$Rounds" "pieceOf" "[I", Cond.methodLink RX3 93 yX3_requireHalf, Cond.instanceMethod yX3_requireHalf, Cond.selects RX3 yX3_requireHalf yX3_requireHalf, Cond.initialized RX3, Cond.code yX3_requireHalf cX3_requireHalf 2 none, Cond.classLink RX3 112 "java/lang/IndexOutOfBoundsException", Cond.initialized "java/lang/IndexOutOfBoundsException", Cond.fieldLink RX3 27 "PlaneFaces" "segments" "LPlaneFaces$Segments;", Cond.methodLink RX3 66 yX2_has, Cond.instanceMethod yX2_has, Cond.selects RX2 yX2_has yX2_has, Cond.initialized RX2, Cond.code yX2_has cX2_has 2 (some .boolean), Cond.fieldLink RX2 18 "PlaneFaces$Segments" "used" "[Z", Cond.methodLink RX3 79 yX3_refresh, Cond.instanceMethod yX3_refresh, Cond.selects RX3 yX3_refresh yX3_refresh, Cond.code yX3_refresh cX3_refresh 1 none, Cond.fieldLink RX3 28 "PlaneFaces" "stale" "Z", Cond.fieldLink RX3 12 "PlaneFaces" "faces" "LPlaneFaces$Faces;", Cond.methodLink RX3 160 yX1_trace, Cond.instanceMethod yX1_trace]
def wsX3_piece_r2 : List Cond := [Cond.selects RX1 yX1_trace yX1_trace, Cond.initialized RX1, Cond.code yX1_trace cX1_trace 2 none, Cond.fieldLink RX1 22 "PlaneFaces$Rounds" "following" "[I", Cond.fieldLink RX1 12 "PlaneFaces$Rounds" "segments" "LPlaneFaces$Segments;", Cond.fieldLink RX1 54 "PlaneFaces$Segments" "used" "[Z", Cond.methodLink RX1 51 yX1_findCorners, Cond.instanceMethod yX1_findCorners, Cond.selects RX1 yX1_findCorners yX1_findCorners, Cond.code yX1_findCorners cX1_findCorners 2 none, Cond.fieldLink RX1 18 "PlaneFaces$Rounds" "corner" "[I", Cond.fieldLink RX1 71 "PlaneFaces$Segments" "x" "[I", Cond.fieldLink RX1 74 "PlaneFaces$Segments" "y" "[I", Cond.methodLink RX1 77 yX2_leastHalfAt, Cond.instanceMethod yX2_leastHalfAt, Cond.selects RX2 yX2_leastHalfAt yX2_leastHalfAt, Cond.code yX2_leastHalfAt cX2_leastHalfAt 4 (some .int), Cond.fieldLink RX2 9 "PlaneFaces$Segments" "x" "[I", Cond.fieldLink RX2 15 "PlaneFaces$Segments" "y" "[I", Cond.methodLink RX1 58 yX1_firstClockwise, Cond.instanceMethod yX1_firstClockwise, Cond.selects RX1 yX1_firstClockwise yX1_firstClockwise, Cond.code yX1_firstClockwise cX1_firstClockwise 5 (some .int), Cond.methodLink RX1 81 yX2_sooner]
def wsX3_piece_r3 : List Cond := [Cond.instanceMethod yX2_sooner, Cond.selects RX2 yX2_sooner yX2_sooner, Cond.code yX2_sooner cX2_sooner 6 (some .boolean), Cond.methodLink RX2 50 yX2_turn, Cond.instanceMethod yX2_turn, Cond.selects RX2 yX2_turn yX2_turn, Cond.code yX2_turn cX2_turn 7 (some .long), Cond.methodLink RX2 54 yX2_signOf, Cond.static yX2_signOf, Cond.code yX2_signOf cX2_signOf 2 (some .int), Cond.methodLink RX1 62 yX1_joinPieces, Cond.instanceMethod yX1_joinPieces, Cond.selects RX1 yX1_joinPieces yX1_joinPieces, Cond.code yX1_joinPieces cX1_joinPieces 2 none, Cond.fieldLink RX1 25 "PlaneFaces$Rounds" "root" "[I", Cond.methodLink RX1 85 yX1_joinRoots, Cond.instanceMethod yX1_joinRoots, Cond.selects RX1 yX1_joinRoots yX1_joinRoots, Cond.code yX1_joinRoots cX1_joinRoots 4 none, Cond.methodLink RX1 89 Lib.Math.max.name, Cond.static Lib.Math.max.name, Cond.initialized "java/lang/Math", Cond.code Lib.Math.max.name Lib.Math.max.code 2 (some .int), Cond.methodLink RX1 94 Lib.Math.min.name]
def wsX3_piece_r4 : List Cond := [Cond.static Lib.Math.min.name, Cond.code Lib.Math.min.name Lib.Math.min.code 2 (some .int), Cond.methodLink RX1 65 yX1_numberPieces, Cond.instanceMethod yX1_numberPieces, Cond.selects RX1 yX1_numberPieces yX1_numberPieces, Cond.code yX1_numberPieces cX1_numberPieces 2 none, Cond.fieldLink RX1 31 "PlaneFaces$Rounds" "pieces" "I", Cond.fieldLink RX1 28 "PlaneFaces$Rounds" "pieceOf" "[I", Cond.methodLink RX1 68 yX1_walkRounds, Cond.instanceMethod yX1_walkRounds, Cond.selects RX1 yX1_walkRounds yX1_walkRounds, Cond.code yX1_walkRounds cX1_walkRounds 2 none, Cond.fieldLink RX1 35 "PlaneFaces$Rounds" "roundOf" "[I", Cond.fieldLink RX1 48 "PlaneFaces$Rounds" "size" "I", Cond.methodLink RX1 97 yJ7_fill_53178, Cond.static yJ7_fill_53178, Cond.initialized RJ7, Cond.code yJ7_fill_53178 cJ7_fill_53178 4 none, Cond.methodLink RX1 103 yX1_walk, Cond.instanceMethod yX1_walk, Cond.selects RX1 yX1_walk yX1_walk, Cond.code yX1_walk cX1_walk 4 none, Cond.fieldLink RX1 38 "PlaneFaces$Rounds" "start" "[I", Cond.fieldLink RX1 41 "PlaneFaces$Rounds" "twice" "[J"]
def wsX3_piece_r5 : List Cond := [Cond.methodLink RX1 107 yX2_sweep, Cond.instanceMethod yX2_sweep, Cond.selects RX2 yX2_sweep yX2_sweep, Cond.code yX2_sweep cX2_sweep 2 (some .long), Cond.methodLink RX3 163 yX0_settle, Cond.instanceMethod yX0_settle, Cond.selects RX0 yX0_settle yX0_settle, Cond.initialized RX0, Cond.code yX0_settle cX0_settle 2 none, Cond.fieldLink RX0 12 "PlaneFaces$Faces" "rounds" "LPlaneFaces$Rounds;", Cond.fieldLink RX0 49 "PlaneFaces$Rounds" "size" "I", Cond.fieldLink RX0 23 "PlaneFaces$Faces" "home" "[I", Cond.fieldLink RX0 33 "PlaneFaces$Faces" "outside" "[I", Cond.fieldLink RX0 30 "PlaneFaces$Faces" "faceOf" "[I", Cond.fieldLink RX0 54 "PlaneFaces$Rounds" "start" "[I", Cond.methodLink RX0 43 yX0_findHomes, Cond.instanceMethod yX0_findHomes, Cond.selects RX0 yX0_findHomes yX0_findHomes, Cond.code yX0_findHomes cX0_findHomes 3 none, Cond.fieldLink RX0 57 "PlaneFaces$Rounds" "twice" "[J", Cond.fieldLink RX0 22 "PlaneFaces$Faces" "segments" "LPlaneFaces$Segments;", Cond.fieldLink RX0 61 "PlaneFaces$Segments" "x" "[I", Cond.fieldLink RX0 66 "PlaneFaces$Segments" "y" "[I", Cond.methodLink RX0 50 yX1_pieceOfRound]
def wsX3_piece_r6 : List Cond := [Cond.instanceMethod yX1_pieceOfRound, Cond.selects RX1 yX1_pieceOfRound yX1_pieceOfRound, Cond.code yX1_pieceOfRound cX1_pieceOfRound 2 (some .int), Cond.methodLink RX0 69 yX1_enclosing, Cond.instanceMethod yX1_enclosing, Cond.selects RX1 yX1_enclosing yX1_enclosing, Cond.code yX1_enclosing cX1_enclosing 7 (some .int), Cond.fieldLink RX1 45 "PlaneFaces$Rounds" "odd" "[I", Cond.methodLink RX1 111 yX1_markOddRounds, Cond.instanceMethod yX1_markOddRounds, Cond.selects RX1 yX1_markOddRounds yX1_markOddRounds, Cond.code yX1_markOddRounds cX1_markOddRounds 4 none, Cond.methodLink RX1 117 yX2_roofs, Cond.instanceMethod yX2_roofs, Cond.selects RX2 yX2_roofs yX2_roofs, Cond.code yX2_roofs cX2_roofs 5 (some .boolean), Cond.methodLink RX2 58 yX2_rightward, Cond.instanceMethod yX2_rightward, Cond.selects RX2 yX2_rightward yX2_rightward, Cond.code yX2_rightward cX2_rightward 2 (some .int), Cond.methodLink RX2 46 yX2_side, Cond.instanceMethod yX2_side, Cond.selects RX2 yX2_side yX2_side, Cond.code yX2_side cX2_side 8 (some .long)]
def wsX3_piece_r7 : List Cond := [Cond.methodLink RX1 114 yX1_pieceOfRound, Cond.methodLink RX0 46 yX0_numberFaces, Cond.instanceMethod yX0_numberFaces, Cond.selects RX0 yX0_numberFaces yX0_numberFaces, Cond.code yX0_numberFaces cX0_numberFaces 3 none, Cond.fieldLink RX0 27 "PlaneFaces$Faces" "number" "[I", Cond.fieldLink RX0 39 "PlaneFaces$Faces" "size" "I", Cond.fieldLink RX0 79 "PlaneFaces$Segments" "used" "[Z", Cond.fieldLink RX0 83 "PlaneFaces$Rounds" "roundOf" "[I", Cond.methodLink RX0 73 yJ7_fill_53178, Cond.methodLink RX0 86 yX0_faceWithin, Cond.instanceMethod yX0_faceWithin, Cond.selects RX0 yX0_faceWithin yX0_faceWithin, Cond.code yX0_faceWithin cX0_faceWithin 2 (some .int)]
def wsX3_piece : List Cond := .code yX3_piece cX3_piece 2 (some .int) :: ((wsX3_piece_r1 ++ (wsX3_piece_r2 ++ (wsX3_piece_r3 ++ (wsX3_piece_r4 ++ (wsX3_piece_r5 ++ (wsX3_piece_r6 ++ wsX3_piece_r7)))))) ++ wsX30 ++ wsX10 ++ wsX20 ++ wsX00 ++ (vx_atS RX3 116 "java/lang/IndexOutOfBoundsException" ["java/lang/RuntimeException", "java/lang/Exception"]).filter goodWord)
def wsX3_around_r1 : List Cond := [Cond.classLink RX3 112 "java/lang/IndexOutOfBoundsException", Cond.initialized "java/lang/IndexOutOfBoundsException", Cond.fieldLink RX3 20 "PlaneFaces" "rounds" "LPlaneFaces$Rounds;", Cond.fieldLink RX3 86 "PlaneFaces$Rounds" "pieces" "I", Cond.fieldLink RX3 12 "PlaneFaces" "faces" "LPlaneFaces$Faces;", Cond.fieldLink RX3 117 "PlaneFaces$Faces" "outside" "[I", Cond.methodLink RX3 79 yX3_refresh, Cond.instanceMethod yX3_refresh, Cond.selects RX3 yX3_refresh yX3_refresh, Cond.initialized RX3, Cond.code yX3_refresh cX3_refresh 1 none, Cond.fieldLink RX3 28 "PlaneFaces" "stale" "Z", Cond.methodLink RX3 160 yX1_trace, Cond.instanceMethod yX1_trace, Cond.selects RX1 yX1_trace yX1_trace, Cond.initialized RX1, Cond.code yX1_trace cX1_trace 2 none, Cond.fieldLink RX1 22 "PlaneFaces$Rounds" "following" "[I", Cond.fieldLink RX1 12 "PlaneFaces$Rounds" "segments" "LPlaneFaces$Segments;", Cond.fieldLink RX1 54 "PlaneFaces$Segments" "used" "[Z", Cond.methodLink RX1 51 yX1_findCorners, Cond.instanceMethod yX1_findCorners, Cond.selects RX1 yX1_findCorners yX1_findCorners, Cond.code yX1_findCorners cX1_findCorners 2 none]
def wsX3_around_r2 : List Cond := [Cond.fieldLink RX1 18 "PlaneFaces$Rounds" "corner" "[I", Cond.fieldLink RX1 71 "PlaneFaces$Segments" "x" "[I", Cond.fieldLink RX1 74 "PlaneFaces$Segments" "y" "[I", Cond.methodLink RX1 77 yX2_leastHalfAt, Cond.instanceMethod yX2_leastHalfAt, Cond.selects RX2 yX2_leastHalfAt yX2_leastHalfAt, Cond.initialized RX2, Cond.code yX2_leastHalfAt cX2_leastHalfAt 4 (some .int), Cond.fieldLink RX2 18 "PlaneFaces$Segments" "used" "[Z", Cond.fieldLink RX2 9 "PlaneFaces$Segments" "x" "[I", Cond.fieldLink RX2 15 "PlaneFaces$Segments" "y" "[I", Cond.methodLink RX1 58 yX1_firstClockwise, Cond.instanceMethod yX1_firstClockwise, Cond.selects RX1 yX1_firstClockwise yX1_firstClockwise, Cond.code yX1_firstClockwise cX1_firstClockwise 5 (some .int), Cond.methodLink RX1 81 yX2_sooner, Cond.instanceMethod yX2_sooner, Cond.selects RX2 yX2_sooner yX2_sooner, Cond.code yX2_sooner cX2_sooner 6 (some .boolean), Cond.methodLink RX2 50 yX2_turn, Cond.instanceMethod yX2_turn, Cond.selects RX2 yX2_turn yX2_turn, Cond.code yX2_turn cX2_turn 7 (some .long), Cond.methodLink RX2 54 yX2_signOf]
def wsX3_around_r3 : List Cond := [Cond.static yX2_signOf, Cond.code yX2_signOf cX2_signOf 2 (some .int), Cond.methodLink RX1 62 yX1_joinPieces, Cond.instanceMethod yX1_joinPieces, Cond.selects RX1 yX1_joinPieces yX1_joinPieces, Cond.code yX1_joinPieces cX1_joinPieces 2 none, Cond.fieldLink RX1 25 "PlaneFaces$Rounds" "root" "[I", Cond.methodLink RX1 85 yX1_joinRoots, Cond.instanceMethod yX1_joinRoots, Cond.selects RX1 yX1_joinRoots yX1_joinRoots, Cond.code yX1_joinRoots cX1_joinRoots 4 none, Cond.methodLink RX1 89 Lib.Math.max.name, Cond.static Lib.Math.max.name, Cond.initialized "java/lang/Math", Cond.code Lib.Math.max.name Lib.Math.max.code 2 (some .int), Cond.methodLink RX1 94 Lib.Math.min.name, Cond.static Lib.Math.min.name, Cond.code Lib.Math.min.name Lib.Math.min.code 2 (some .int), Cond.methodLink RX1 65 yX1_numberPieces, Cond.instanceMethod yX1_numberPieces, Cond.selects RX1 yX1_numberPieces yX1_numberPieces, Cond.code yX1_numberPieces cX1_numberPieces 2 none, Cond.fieldLink RX1 31 "PlaneFaces$Rounds" "pieces" "I", Cond.fieldLink RX1 28 "PlaneFaces$Rounds" "pieceOf" "[I"]
def wsX3_around_r4 : List Cond := [Cond.methodLink RX1 68 yX1_walkRounds, Cond.instanceMethod yX1_walkRounds, Cond.selects RX1 yX1_walkRounds yX1_walkRounds, Cond.code yX1_walkRounds cX1_walkRounds 2 none, Cond.fieldLink RX1 35 "PlaneFaces$Rounds" "roundOf" "[I", Cond.fieldLink RX1 48 "PlaneFaces$Rounds" "size" "I", Cond.methodLink RX1 97 yJ7_fill_53178, Cond.static yJ7_fill_53178, Cond.initialized RJ7, Cond.code yJ7_fill_53178 cJ7_fill_53178 4 none, Cond.methodLink RX1 103 yX1_walk, Cond.instanceMethod yX1_walk, Cond.selects RX1 yX1_walk yX1_walk, Cond.code yX1_walk cX1_walk 4 none, Cond.fieldLink RX1 38 "PlaneFaces$Rounds" "start" "[I", Cond.fieldLink RX1 41 "PlaneFaces$Rounds" "twice" "[J", Cond.methodLink RX1 107 yX2_sweep, Cond.instanceMethod yX2_sweep, Cond.selects RX2 yX2_sweep yX2_sweep, Cond.code yX2_sweep cX2_sweep 2 (some .long), Cond.methodLink RX3 163 yX0_settle, Cond.instanceMethod yX0_settle, Cond.selects RX0 yX0_settle yX0_settle, Cond.initialized RX0]
def wsX3_around_r5 : List Cond := [Cond.code yX0_settle cX0_settle 2 none, Cond.fieldLink RX0 12 "PlaneFaces$Faces" "rounds" "LPlaneFaces$Rounds;", Cond.fieldLink RX0 49 "PlaneFaces$Rounds" "size" "I", Cond.fieldLink RX0 23 "PlaneFaces$Faces" "home" "[I", Cond.fieldLink RX0 33 "PlaneFaces$Faces" "outside" "[I", Cond.fieldLink RX0 30 "PlaneFaces$Faces" "faceOf" "[I", Cond.fieldLink RX0 54 "PlaneFaces$Rounds" "start" "[I", Cond.methodLink RX0 43 yX0_findHomes, Cond.instanceMethod yX0_findHomes, Cond.selects RX0 yX0_findHomes yX0_findHomes, Cond.code yX0_findHomes cX0_findHomes 3 none, Cond.fieldLink RX0 57 "PlaneFaces$Rounds" "twice" "[J", Cond.fieldLink RX0 22 "PlaneFaces$Faces" "segments" "LPlaneFaces$Segments;", Cond.fieldLink RX0 61 "PlaneFaces$Segments" "x" "[I", Cond.fieldLink RX0 66 "PlaneFaces$Segments" "y" "[I", Cond.methodLink RX0 50 yX1_pieceOfRound, Cond.instanceMethod yX1_pieceOfRound, Cond.selects RX1 yX1_pieceOfRound yX1_pieceOfRound, Cond.code yX1_pieceOfRound cX1_pieceOfRound 2 (some .int), Cond.methodLink RX0 69 yX1_enclosing, Cond.instanceMethod yX1_enclosing, Cond.selects RX1 yX1_enclosing yX1_enclosing, Cond.code yX1_enclosing cX1_enclosing 7 (some .int), Cond.fieldLink RX1 45 "PlaneFaces$Rounds" "odd" "[I"]
def wsX3_around_r6 : List Cond := [Cond.methodLink RX1 111 yX1_markOddRounds, Cond.instanceMethod yX1_markOddRounds, Cond.selects RX1 yX1_markOddRounds yX1_markOddRounds, Cond.code yX1_markOddRounds cX1_markOddRounds 4 none, Cond.methodLink RX1 117 yX2_roofs, Cond.instanceMethod yX2_roofs, Cond.selects RX2 yX2_roofs yX2_roofs, Cond.code yX2_roofs cX2_roofs 5 (some .boolean), Cond.methodLink RX2 58 yX2_rightward, Cond.instanceMethod yX2_rightward, Cond.selects RX2 yX2_rightward yX2_rightward, Cond.code yX2_rightward cX2_rightward 2 (some .int), Cond.methodLink RX2 46 yX2_side, Cond.instanceMethod yX2_side, Cond.selects RX2 yX2_side yX2_side, Cond.code yX2_side cX2_side 8 (some .long), Cond.methodLink RX1 114 yX1_pieceOfRound, Cond.methodLink RX0 46 yX0_numberFaces, Cond.instanceMethod yX0_numberFaces, Cond.selects RX0 yX0_numberFaces yX0_numberFaces, Cond.code yX0_numberFaces cX0_numberFaces 3 none, Cond.fieldLink RX0 27 "PlaneFaces$Faces" "number" "[I", Cond.fieldLink RX0 39 "PlaneFaces$Faces" "size" "I", Cond.fieldLink RX0 79 "PlaneFaces$Segments" "used" "[Z"]
def wsX3_around_r7 : List Cond := [Cond.fieldLink RX0 83 "PlaneFaces$Rounds" "roundOf" "[I", Cond.methodLink RX0 73 yJ7_fill_53178, Cond.methodLink RX0 86 yX0_faceWithin, Cond.instanceMethod yX0_faceWithin, Cond.selects RX0 yX0_faceWithin yX0_faceWithin, Cond.code yX0_faceWithin cX0_faceWithin 2 (some .int)]
def wsX3_around : List Cond := .code yX3_around cX3_around 2 (some .int) :: ((wsX3_around_r1 ++ (wsX3_around_r2 ++ (wsX3_around_r3 ++ (wsX3_around_r4 ++ (wsX3_around_r5 ++ (wsX3_around_r6 ++ wsX3_around_r7)))))) ++ wsX30 ++ wsX10 ++ wsX00 ++ wsX20 ++ (vx_atS RX3 116 "java/lang/IndexOutOfBoundsException" ["java/lang/RuntimeException", "java/lang/Exception"]).filter goodWord)
def wsX3_requireFace : List Cond := .code yX3_requireFace cX3_requireFace 2 none :: ([.classLink RX3 112 "java/lang/IndexOutOfBoundsException", .initialized "java/lang/IndexOutOfBoundsException", .fieldLink RX3 12 "PlaneFaces" "faces" "LPlaneFaces$Faces;", .fieldLink RX3 85 "PlaneFaces$Faces" "size" "I"] ++ wsX30 ++ wsX00 ++ (vx_atS RX3 116 "java/lang/IndexOutOfBoundsException" ["java/lang/RuntimeException", "java/lang/Exception"]).filter goodWord)
def wsX3_area_r1 : List Cond := [Cond.fieldLink RX3 12 "PlaneFaces" "faces" "LPlaneFaces$Faces;", Cond.methodLink RX3 79 yX3_refresh, Cond.instanceMethod yX3_refresh, Cond.selects RX3 yX3_refresh yX3_refresh, Cond.initialized RX3, Cond.code yX3_refresh cX3_refresh 1 none, Cond.fieldLink RX3 28 "PlaneFaces" "stale" "Z", Cond.fieldLink RX3 20 "PlaneFaces" "rounds" "LPlaneFaces$Rounds;", Cond.methodLink RX3 160 yX1_trace, Cond.instanceMethod yX1_trace, Cond.selects RX1 yX1_trace yX1_trace, Cond.initialized RX1, Cond.code yX1_trace cX1_trace 2 none, Cond.fieldLink RX1 22 "PlaneFaces$Rounds" "following" "[I", Cond.fieldLink RX1 12 "PlaneFaces$Rounds" "segments" "LPlaneFaces$Segments;", Cond.fieldLink RX1 54 "PlaneFaces$Segments" "used" "[Z", Cond.methodLink RX1 51 yX1_findCorners, Cond.instanceMethod yX1_findCorners, Cond.selects RX1 yX1_findCorners yX1_findCorners, Cond.code yX1_findCorners cX1_findCorners 2 none, Cond.fieldLink RX1 18 "PlaneFaces$Rounds" "corner" "[I", Cond.fieldLink RX1 71 "PlaneFaces$Segments" "x" "[I", Cond.fieldLink RX1 74 "PlaneFaces$Segments" "y" "[I", Cond.methodLink RX1 77 yX2_leastHalfAt]
def wsX3_area_r2 : List Cond := [Cond.instanceMethod yX2_leastHalfAt, Cond.selects RX2 yX2_leastHalfAt yX2_leastHalfAt, Cond.initialized RX2, Cond.code yX2_leastHalfAt cX2_leastHalfAt 4 (some .int), Cond.fieldLink RX2 18 "PlaneFaces$Segments" "used" "[Z", Cond.fieldLink RX2 9 "PlaneFaces$Segments" "x" "[I", Cond.fieldLink RX2 15 "PlaneFaces$Segments" "y" "[I", Cond.methodLink RX1 58 yX1_firstClockwise, Cond.instanceMethod yX1_firstClockwise, Cond.selects RX1 yX1_firstClockwise yX1_firstClockwise, Cond.code yX1_firstClockwise cX1_firstClockwise 5 (some .int), Cond.methodLink RX1 81 yX2_sooner, Cond.instanceMethod yX2_sooner, Cond.selects RX2 yX2_sooner yX2_sooner, Cond.code yX2_sooner cX2_sooner 6 (some .boolean), Cond.methodLink RX2 50 yX2_turn, Cond.instanceMethod yX2_turn, Cond.selects RX2 yX2_turn yX2_turn, Cond.code yX2_turn cX2_turn 7 (some .long), Cond.methodLink RX2 54 yX2_signOf, Cond.static yX2_signOf, Cond.code yX2_signOf cX2_signOf 2 (some .int), Cond.methodLink RX1 62 yX1_joinPieces, Cond.instanceMethod yX1_joinPieces]
def wsX3_area_r3 : List Cond := [Cond.selects RX1 yX1_joinPieces yX1_joinPieces, Cond.code yX1_joinPieces cX1_joinPieces 2 none, Cond.fieldLink RX1 25 "PlaneFaces$Rounds" "root" "[I", Cond.methodLink RX1 85 yX1_joinRoots, Cond.instanceMethod yX1_joinRoots, Cond.selects RX1 yX1_joinRoots yX1_joinRoots, Cond.code yX1_joinRoots cX1_joinRoots 4 none, Cond.methodLink RX1 89 Lib.Math.max.name, Cond.static Lib.Math.max.name, Cond.initialized "java/lang/Math", Cond.code Lib.Math.max.name Lib.Math.max.code 2 (some .int), Cond.methodLink RX1 94 Lib.Math.min.name, Cond.static Lib.Math.min.name, Cond.code Lib.Math.min.name Lib.Math.min.code 2 (some .int), Cond.methodLink RX1 65 yX1_numberPieces, Cond.instanceMethod yX1_numberPieces, Cond.selects RX1 yX1_numberPieces yX1_numberPieces, Cond.code yX1_numberPieces cX1_numberPieces 2 none, Cond.fieldLink RX1 31 "PlaneFaces$Rounds" "pieces" "I", Cond.fieldLink RX1 28 "PlaneFaces$Rounds" "pieceOf" "[I", Cond.methodLink RX1 68 yX1_walkRounds, Cond.instanceMethod yX1_walkRounds, Cond.selects RX1 yX1_walkRounds yX1_walkRounds, Cond.code yX1_walkRounds cX1_walkRounds 2 none]
def wsX3_area_r4 : List Cond := [Cond.fieldLink RX1 35 "PlaneFaces$Rounds" "roundOf" "[I", Cond.fieldLink RX1 48 "PlaneFaces$Rounds" "size" "I", Cond.methodLink RX1 97 yJ7_fill_53178, Cond.static yJ7_fill_53178, Cond.initialized RJ7, Cond.code yJ7_fill_53178 cJ7_fill_53178 4 none, Cond.methodLink RX1 103 yX1_walk, Cond.instanceMethod yX1_walk, Cond.selects RX1 yX1_walk yX1_walk, Cond.code yX1_walk cX1_walk 4 none, Cond.fieldLink RX1 38 "PlaneFaces$Rounds" "start" "[I", Cond.fieldLink RX1 41 "PlaneFaces$Rounds" "twice" "[J", Cond.methodLink RX1 107 yX2_sweep, Cond.instanceMethod yX2_sweep, Cond.selects RX2 yX2_sweep yX2_sweep, Cond.code yX2_sweep cX2_sweep 2 (some .long), Cond.methodLink RX3 163 yX0_settle, Cond.instanceMethod yX0_settle, Cond.selects RX0 yX0_settle yX0_settle, Cond.initialized RX0, Cond.code yX0_settle cX0_settle 2 none, Cond.fieldLink RX0 12 "PlaneFaces$Faces" "rounds" "LPlaneFaces$Rounds;", Cond.fieldLink RX0 49 "PlaneFaces$Rounds" "size" "I", Cond.fieldLink RX0 23 "PlaneFaces$Faces" "home" "[I"]
def wsX3_area_r5 : List Cond := [Cond.fieldLink RX0 33 "PlaneFaces$Faces" "outside" "[I", Cond.fieldLink RX0 30 "PlaneFaces$Faces" "faceOf" "[I", Cond.fieldLink RX0 54 "PlaneFaces$Rounds" "start" "[I", Cond.methodLink RX0 43 yX0_findHomes, Cond.instanceMethod yX0_findHomes, Cond.selects RX0 yX0_findHomes yX0_findHomes, Cond.code yX0_findHomes cX0_findHomes 3 none, Cond.fieldLink RX0 57 "PlaneFaces$Rounds" "twice" "[J", Cond.fieldLink RX0 22 "PlaneFaces$Faces" "segments" "LPlaneFaces$Segments;", Cond.fieldLink RX0 61 "PlaneFaces$Segments" "x" "[I", Cond.fieldLink RX0 66 "PlaneFaces$Segments" "y" "[I", Cond.methodLink RX0 50 yX1_pieceOfRound, Cond.instanceMethod yX1_pieceOfRound, Cond.selects RX1 yX1_pieceOfRound yX1_pieceOfRound, Cond.code yX1_pieceOfRound cX1_pieceOfRound 2 (some .int), Cond.methodLink RX0 69 yX1_enclosing, Cond.instanceMethod yX1_enclosing, Cond.selects RX1 yX1_enclosing yX1_enclosing, Cond.code yX1_enclosing cX1_enclosing 7 (some .int), Cond.fieldLink RX1 45 "PlaneFaces$Rounds" "odd" "[I", Cond.methodLink RX1 111 yX1_markOddRounds, Cond.instanceMethod yX1_markOddRounds, Cond.selects RX1 yX1_markOddRounds yX1_markOddRounds, Cond.code yX1_markOddRounds cX1_markOddRounds 4 none]
def wsX3_area_r6 : List Cond := [Cond.methodLink RX1 117 yX2_roofs, Cond.instanceMethod yX2_roofs, Cond.selects RX2 yX2_roofs yX2_roofs, Cond.code yX2_roofs cX2_roofs 5 (some .boolean), Cond.methodLink RX2 58 yX2_rightward, Cond.instanceMethod yX2_rightward, Cond.selects RX2 yX2_rightward yX2_rightward, Cond.code yX2_rightward cX2_rightward 2 (some .int), Cond.methodLink RX2 46 yX2_side, Cond.instanceMethod yX2_side, Cond.selects RX2 yX2_side yX2_side, Cond.code yX2_side cX2_side 8 (some .long), Cond.methodLink RX1 114 yX1_pieceOfRound, Cond.methodLink RX0 46 yX0_numberFaces, Cond.instanceMethod yX0_numberFaces, Cond.selects RX0 yX0_numberFaces yX0_numberFaces, Cond.code yX0_numberFaces cX0_numberFaces 3 none, Cond.fieldLink RX0 27 "PlaneFaces$Faces" "number" "[I", Cond.fieldLink RX0 39 "PlaneFaces$Faces" "size" "I", Cond.fieldLink RX0 79 "PlaneFaces$Segments" "used" "[Z", Cond.fieldLink RX0 83 "PlaneFaces$Rounds" "roundOf" "[I", Cond.methodLink RX0 73 yJ7_fill_53178, Cond.methodLink RX0 86 yX0_faceWithin, Cond.instanceMethod yX0_faceWithin]
def wsX3_area_r7 : List Cond := [Cond.selects RX0 yX0_faceWithin yX0_faceWithin, Cond.code yX0_faceWithin cX0_faceWithin 2 (some .int), Cond.methodLink RX3 120 yX3_requireFace, Cond.instanceMethod yX3_requireFace, Cond.selects RX3 yX3_requireFace yX3_requireFace, Cond.code yX3_requireFace cX3_requireFace 2 none, Cond.classLink RX3 112 "java/lang/IndexOutOfBoundsException", Cond.initialized "java/lang/IndexOutOfBoundsException", Cond.fieldLink RX3 85 "PlaneFaces$Faces" "size" "I", Cond.methodLink RX3 123 yX0_twiceArea, Cond.instanceMethod yX0_twiceArea, Cond.selects RX0 yX0_twiceArea yX0_twiceArea, Cond.code yX0_twiceArea cX0_twiceArea 5 (some .long)]
def wsX3_area : List Cond := .code yX3_area cX3_area 2 (some .int) :: ((wsX3_area_r1 ++ (wsX3_area_r2 ++ (wsX3_area_r3 ++ (wsX3_area_r4 ++ (wsX3_area_r5 ++ (wsX3_area_r6 ++ wsX3_area_r7)))))) ++ wsX30 ++ wsX10 ++ wsX20 ++ wsX00 ++ (vx_atS RX3 116 "java/lang/IndexOutOfBoundsException" ["java/lang/RuntimeException", "java/lang/Exception"]).filter goodWord)
def wsX3_border_r1 : List Cond := [Cond.fieldLink RX3 12 "PlaneFaces" "faces" "LPlaneFaces$Faces;", Cond.methodLink RX3 79 yX3_refresh, Cond.instanceMethod yX3_refresh, Cond.selects RX3 yX3_refresh yX3_refresh, Cond.initialized RX3, Cond.code yX3_refresh cX3_refresh 1 none, Cond.fieldLink RX3 28 "PlaneFaces" "stale" "Z", Cond.fieldLink RX3 20 "PlaneFaces" "rounds" "LPlaneFaces$Rounds;", Cond.methodLink RX3 160 yX1_trace, Cond.instanceMethod yX1_trace, Cond.selects RX1 yX1_trace yX1_trace, Cond.initialized RX1, Cond.code yX1_trace cX1_trace 2 none, Cond.fieldLink RX1 22 "PlaneFaces$Rounds" "following" "[I", Cond.fieldLink RX1 12 "PlaneFaces$Rounds" "segments" "LPlaneFaces$Segments;", Cond.fieldLink RX1 54 "PlaneFaces$Segments" "used" "[Z", Cond.methodLink RX1 51 yX1_findCorners, Cond.instanceMethod yX1_findCorners, Cond.selects RX1 yX1_findCorners yX1_findCorners, Cond.code yX1_findCorners cX1_findCorners 2 none, Cond.fieldLink RX1 18 "PlaneFaces$Rounds" "corner" "[I", Cond.fieldLink RX1 71 "PlaneFaces$Segments" "x" "[I", Cond.fieldLink RX1 74 "PlaneFaces$Segments" "y" "[I", Cond.methodLink RX1 77 yX2_leastHalfAt]
def wsX3_border_r2 : List Cond := [Cond.instanceMethod yX2_leastHalfAt, Cond.selects RX2 yX2_leastHalfAt yX2_leastHalfAt, Cond.initialized RX2, Cond.code yX2_leastHalfAt cX2_leastHalfAt 4 (some .int), Cond.fieldLink RX2 18 "PlaneFaces$Segments" "used" "[Z", Cond.fieldLink RX2 9 "PlaneFaces$Segments" "x" "[I", Cond.fieldLink RX2 15 "PlaneFaces$Segments" "y" "[I", Cond.methodLink RX1 58 yX1_firstClockwise, Cond.instanceMethod yX1_firstClockwise, Cond.selects RX1 yX1_firstClockwise yX1_firstClockwise, Cond.code yX1_firstClockwise cX1_firstClockwise 5 (some .int), Cond.methodLink RX1 81 yX2_sooner, Cond.instanceMethod yX2_sooner, Cond.selects RX2 yX2_sooner yX2_sooner, Cond.code yX2_sooner cX2_sooner 6 (some .boolean), Cond.methodLink RX2 50 yX2_turn, Cond.instanceMethod yX2_turn, Cond.selects RX2 yX2_turn yX2_turn, Cond.code yX2_turn cX2_turn 7 (some .long), Cond.methodLink RX2 54 yX2_signOf, Cond.static yX2_signOf, Cond.code yX2_signOf cX2_signOf 2 (some .int), Cond.methodLink RX1 62 yX1_joinPieces, Cond.instanceMethod yX1_joinPieces]
def wsX3_border_r3 : List Cond := [Cond.selects RX1 yX1_joinPieces yX1_joinPieces, Cond.code yX1_joinPieces cX1_joinPieces 2 none, Cond.fieldLink RX1 25 "PlaneFaces$Rounds" "root" "[I", Cond.methodLink RX1 85 yX1_joinRoots, Cond.instanceMethod yX1_joinRoots, Cond.selects RX1 yX1_joinRoots yX1_joinRoots, Cond.code yX1_joinRoots cX1_joinRoots 4 none, Cond.methodLink RX1 89 Lib.Math.max.name, Cond.static Lib.Math.max.name, Cond.initialized "java/lang/Math", Cond.code Lib.Math.max.name Lib.Math.max.code 2 (some .int), Cond.methodLink RX1 94 Lib.Math.min.name, Cond.static Lib.Math.min.name, Cond.code Lib.Math.min.name Lib.Math.min.code 2 (some .int), Cond.methodLink RX1 65 yX1_numberPieces, Cond.instanceMethod yX1_numberPieces, Cond.selects RX1 yX1_numberPieces yX1_numberPieces, Cond.code yX1_numberPieces cX1_numberPieces 2 none, Cond.fieldLink RX1 31 "PlaneFaces$Rounds" "pieces" "I", Cond.fieldLink RX1 28 "PlaneFaces$Rounds" "pieceOf" "[I", Cond.methodLink RX1 68 yX1_walkRounds, Cond.instanceMethod yX1_walkRounds, Cond.selects RX1 yX1_walkRounds yX1_walkRounds, Cond.code yX1_walkRounds cX1_walkRounds 2 none]
def wsX3_border_r4 : List Cond := [Cond.fieldLink RX1 35 "PlaneFaces$Rounds" "roundOf" "[I", Cond.fieldLink RX1 48 "PlaneFaces$Rounds" "size" "I", Cond.methodLink RX1 97 yJ7_fill_53178, Cond.static yJ7_fill_53178, Cond.initialized RJ7, Cond.code yJ7_fill_53178 cJ7_fill_53178 4 none, Cond.methodLink RX1 103 yX1_walk, Cond.instanceMethod yX1_walk, Cond.selects RX1 yX1_walk yX1_walk, Cond.code yX1_walk cX1_walk 4 none, Cond.fieldLink RX1 38 "PlaneFaces$Rounds" "start" "[I", Cond.fieldLink RX1 41 "PlaneFaces$Rounds" "twice" "[J", Cond.methodLink RX1 107 yX2_sweep, Cond.instanceMethod yX2_sweep, Cond.selects RX2 yX2_sweep yX2_sweep, Cond.code yX2_sweep cX2_sweep 2 (some .long), Cond.methodLink RX3 163 yX0_settle, Cond.instanceMethod yX0_settle, Cond.selects RX0 yX0_settle yX0_settle, Cond.initialized RX0, Cond.code yX0_settle cX0_settle 2 none, Cond.fieldLink RX0 12 "PlaneFaces$Faces" "rounds" "LPlaneFaces$Rounds;", Cond.fieldLink RX0 49 "PlaneFaces$Rounds" "size" "I", Cond.fieldLink RX0 23 "PlaneFaces$Faces" "home" "[I"]
def wsX3_border_r5 : List Cond := [Cond.fieldLink RX0 33 "PlaneFaces$Faces" "outside" "[I", Cond.fieldLink RX0 30 "PlaneFaces$Faces" "faceOf" "[I", Cond.fieldLink RX0 54 "PlaneFaces$Rounds" "start" "[I", Cond.methodLink RX0 43 yX0_findHomes, Cond.instanceMethod yX0_findHomes, Cond.selects RX0 yX0_findHomes yX0_findHomes, Cond.code yX0_findHomes cX0_findHomes 3 none, Cond.fieldLink RX0 57 "PlaneFaces$Rounds" "twice" "[J", Cond.fieldLink RX0 22 "PlaneFaces$Faces" "segments" "LPlaneFaces$Segments;", Cond.fieldLink RX0 61 "PlaneFaces$Segments" "x" "[I", Cond.fieldLink RX0 66 "PlaneFaces$Segments" "y" "[I", Cond.methodLink RX0 50 yX1_pieceOfRound, Cond.instanceMethod yX1_pieceOfRound, Cond.selects RX1 yX1_pieceOfRound yX1_pieceOfRound, Cond.code yX1_pieceOfRound cX1_pieceOfRound 2 (some .int), Cond.methodLink RX0 69 yX1_enclosing, Cond.instanceMethod yX1_enclosing, Cond.selects RX1 yX1_enclosing yX1_enclosing, Cond.code yX1_enclosing cX1_enclosing 7 (some .int), Cond.fieldLink RX1 45 "PlaneFaces$Rounds" "odd" "[I", Cond.methodLink RX1 111 yX1_markOddRounds, Cond.instanceMethod yX1_markOddRounds, Cond.selects RX1 yX1_markOddRounds yX1_markOddRounds, Cond.code yX1_markOddRounds cX1_markOddRounds 4 none]
def wsX3_border_r6 : List Cond := [Cond.methodLink RX1 117 yX2_roofs, Cond.instanceMethod yX2_roofs, Cond.selects RX2 yX2_roofs yX2_roofs, Cond.code yX2_roofs cX2_roofs 5 (some .boolean), Cond.methodLink RX2 58 yX2_rightward, Cond.instanceMethod yX2_rightward, Cond.selects RX2 yX2_rightward yX2_rightward, Cond.code yX2_rightward cX2_rightward 2 (some .int), Cond.methodLink RX2 46 yX2_side, Cond.instanceMethod yX2_side, Cond.selects RX2 yX2_side yX2_side, Cond.code yX2_side cX2_side 8 (some .long), Cond.methodLink RX1 114 yX1_pieceOfRound, Cond.methodLink RX0 46 yX0_numberFaces, Cond.instanceMethod yX0_numberFaces, Cond.selects RX0 yX0_numberFaces yX0_numberFaces, Cond.code yX0_numberFaces cX0_numberFaces 3 none, Cond.fieldLink RX0 27 "PlaneFaces$Faces" "number" "[I", Cond.fieldLink RX0 39 "PlaneFaces$Faces" "size" "I", Cond.fieldLink RX0 79 "PlaneFaces$Segments" "used" "[Z", Cond.fieldLink RX0 83 "PlaneFaces$Rounds" "roundOf" "[I", Cond.methodLink RX0 73 yJ7_fill_53178, Cond.methodLink RX0 86 yX0_faceWithin, Cond.instanceMethod yX0_faceWithin]
def wsX3_border_r7 : List Cond := [Cond.selects RX0 yX0_faceWithin yX0_faceWithin, Cond.code yX0_faceWithin cX0_faceWithin 2 (some .int), Cond.methodLink RX3 120 yX3_requireFace, Cond.instanceMethod yX3_requireFace, Cond.selects RX3 yX3_requireFace yX3_requireFace, Cond.code yX3_requireFace cX3_requireFace 2 none, Cond.classLink RX3 112 "java/lang/IndexOutOfBoundsException", Cond.initialized "java/lang/IndexOutOfBoundsException", Cond.fieldLink RX3 85 "PlaneFaces$Faces" "size" "I", Cond.methodLink RX3 127 yX0_roundsOf, Cond.instanceMethod yX0_roundsOf, Cond.selects RX0 yX0_roundsOf yX0_roundsOf, Cond.code yX0_roundsOf cX0_roundsOf 4 (some .int), Cond.methodLink RX3 131 yX0_halvesOf, Cond.instanceMethod yX0_halvesOf, Cond.selects RX0 yX0_halvesOf yX0_halvesOf, Cond.code yX0_halvesOf cX0_halvesOf 4 (some .int), Cond.methodLink RX3 134 yX0_leastHalfOf, Cond.instanceMethod yX0_leastHalfOf, Cond.selects RX0 yX0_leastHalfOf yX0_leastHalfOf, Cond.code yX0_leastHalfOf cX0_leastHalfOf 3 (some .int), Cond.methodLink RX3 137 yX0_piecesIn, Cond.instanceMethod yX0_piecesIn, Cond.selects RX0 yX0_piecesIn yX0_piecesIn]
def wsX3_border_r8 : List Cond := [Cond.code yX0_piecesIn cX0_piecesIn 4 (some .int), Cond.fieldLink RX0 89 "PlaneFaces$Rounds" "pieces" "I"]
def wsX3_border : List Cond := .code yX3_border cX3_border 3 (some .int) :: ((wsX3_border_r1 ++ (wsX3_border_r2 ++ (wsX3_border_r3 ++ (wsX3_border_r4 ++ (wsX3_border_r5 ++ (wsX3_border_r6 ++ (wsX3_border_r7 ++ wsX3_border_r8))))))) ++ wsX30 ++ wsX10 ++ wsX20 ++ wsX00 ++ (vx_atS RX3 116 "java/lang/IndexOutOfBoundsException" ["java/lang/RuntimeException", "java/lang/Exception"]).filter goodWord)
def wsX3_locate_r1 : List Cond := [Cond.fieldLink RX3 27 "PlaneFaces" "segments" "LPlaneFaces$Segments;", Cond.fieldLink RX3 12 "PlaneFaces" "faces" "LPlaneFaces$Faces;", Cond.fieldLink RX3 20 "PlaneFaces" "rounds" "LPlaneFaces$Rounds;", Cond.methodLink RX3 32 yX3_requirePlace, Cond.static yX3_requirePlace, Cond.initialized RX3, Cond.code yX3_requirePlace cX3_requirePlace 2 none, Cond.classLink RX3 36 "java/lang/IllegalArgumentException", Cond.initialized "java/lang/IllegalArgumentException", Cond.methodLink RX3 79 yX3_refresh, Cond.instanceMethod yX3_refresh, Cond.selects RX3 yX3_refresh yX3_refresh, Cond.code yX3_refresh cX3_refresh 1 none, Cond.fieldLink RX3 28 "PlaneFaces" "stale" "Z", Cond.methodLink RX3 160 yX1_trace, Cond.instanceMethod yX1_trace, Cond.selects RX1 yX1_trace yX1_trace, Cond.initialized RX1, Cond.code yX1_trace cX1_trace 2 none, Cond.fieldLink RX1 22 "PlaneFaces$Rounds" "following" "[I", Cond.fieldLink RX1 12 "PlaneFaces$Rounds" "segments" "LPlaneFaces$Segments;", Cond.fieldLink RX1 54 "PlaneFaces$Segments" "used" "[Z", Cond.methodLink RX1 51 yX1_findCorners, Cond.instanceMethod yX1_findCorners]
def wsX3_locate_r2 : List Cond := [Cond.selects RX1 yX1_findCorners yX1_findCorners, Cond.code yX1_findCorners cX1_findCorners 2 none, Cond.fieldLink RX1 18 "PlaneFaces$Rounds" "corner" "[I", Cond.fieldLink RX1 71 "PlaneFaces$Segments" "x" "[I", Cond.fieldLink RX1 74 "PlaneFaces$Segments" "y" "[I", Cond.methodLink RX1 77 yX2_leastHalfAt, Cond.instanceMethod yX2_leastHalfAt, Cond.selects RX2 yX2_leastHalfAt yX2_leastHalfAt, Cond.initialized RX2, Cond.code yX2_leastHalfAt cX2_leastHalfAt 4 (some .int), Cond.fieldLink RX2 18 "PlaneFaces$Segments" "used" "[Z", Cond.fieldLink RX2 9 "PlaneFaces$Segments" "x" "[I", Cond.fieldLink RX2 15 "PlaneFaces$Segments" "y" "[I", Cond.methodLink RX1 58 yX1_firstClockwise, Cond.instanceMethod yX1_firstClockwise, Cond.selects RX1 yX1_firstClockwise yX1_firstClockwise, Cond.code yX1_firstClockwise cX1_firstClockwise 5 (some .int), Cond.methodLink RX1 81 yX2_sooner, Cond.instanceMethod yX2_sooner, Cond.selects RX2 yX2_sooner yX2_sooner, Cond.code yX2_sooner cX2_sooner 6 (some .boolean), Cond.methodLink RX2 50 yX2_turn, Cond.instanceMethod yX2_turn, Cond.selects RX2 yX2_turn yX2_turn]
def wsX3_locate_r3 : List Cond := [Cond.code yX2_turn cX2_turn 7 (some .long), Cond.methodLink RX2 54 yX2_signOf, Cond.static yX2_signOf, Cond.code yX2_signOf cX2_signOf 2 (some .int), Cond.methodLink RX1 62 yX1_joinPieces, Cond.instanceMethod yX1_joinPieces, Cond.selects RX1 yX1_joinPieces yX1_joinPieces, Cond.code yX1_joinPieces cX1_joinPieces 2 none, Cond.fieldLink RX1 25 "PlaneFaces$Rounds" "root" "[I", Cond.methodLink RX1 85 yX1_joinRoots, Cond.instanceMethod yX1_joinRoots, Cond.selects RX1 yX1_joinRoots yX1_joinRoots, Cond.code yX1_joinRoots cX1_joinRoots 4 none, Cond.methodLink RX1 89 Lib.Math.max.name, Cond.static Lib.Math.max.name, Cond.initialized "java/lang/Math", Cond.code Lib.Math.max.name Lib.Math.max.code 2 (some .int), Cond.methodLink RX1 94 Lib.Math.min.name, Cond.static Lib.Math.min.name, Cond.code Lib.Math.min.name Lib.Math.min.code 2 (some .int), Cond.methodLink RX1 65 yX1_numberPieces, Cond.instanceMethod yX1_numberPieces, Cond.selects RX1 yX1_numberPieces yX1_numberPieces, Cond.code yX1_numberPieces cX1_numberPieces 2 none]
def wsX3_locate_r4 : List Cond := [Cond.fieldLink RX1 31 "PlaneFaces$Rounds" "pieces" "I", Cond.fieldLink RX1 28 "PlaneFaces$Rounds" "pieceOf" "[I", Cond.methodLink RX1 68 yX1_walkRounds, Cond.instanceMethod yX1_walkRounds, Cond.selects RX1 yX1_walkRounds yX1_walkRounds, Cond.code yX1_walkRounds cX1_walkRounds 2 none, Cond.fieldLink RX1 35 "PlaneFaces$Rounds" "roundOf" "[I", Cond.fieldLink RX1 48 "PlaneFaces$Rounds" "size" "I", Cond.methodLink RX1 97 yJ7_fill_53178, Cond.static yJ7_fill_53178, Cond.initialized RJ7, Cond.code yJ7_fill_53178 cJ7_fill_53178 4 none, Cond.methodLink RX1 103 yX1_walk, Cond.instanceMethod yX1_walk, Cond.selects RX1 yX1_walk yX1_walk, Cond.code yX1_walk cX1_walk 4 none, Cond.fieldLink RX1 38 "PlaneFaces$Rounds" "start" "[I", Cond.fieldLink RX1 41 "PlaneFaces$Rounds" "twice" "[J", Cond.methodLink RX1 107 yX2_sweep, Cond.instanceMethod yX2_sweep, Cond.selects RX2 yX2_sweep yX2_sweep, Cond.code yX2_sweep cX2_sweep 2 (some .long), Cond.methodLink RX3 163 yX0_settle, Cond.instanceMethod yX0_settle]
def wsX3_locate_r5 : List Cond := [Cond.selects RX0 yX0_settle yX0_settle, Cond.initialized RX0, Cond.code yX0_settle cX0_settle 2 none, Cond.fieldLink RX0 12 "PlaneFaces$Faces" "rounds" "LPlaneFaces$Rounds;", Cond.fieldLink RX0 49 "PlaneFaces$Rounds" "size" "I", Cond.fieldLink RX0 23 "PlaneFaces$Faces" "home" "[I", Cond.fieldLink RX0 33 "PlaneFaces$Faces" "outside" "[I", Cond.fieldLink RX0 30 "PlaneFaces$Faces" "faceOf" "[I", Cond.fieldLink RX0 54 "PlaneFaces$Rounds" "start" "[I", Cond.methodLink RX0 43 yX0_findHomes, Cond.instanceMethod yX0_findHomes, Cond.selects RX0 yX0_findHomes yX0_findHomes, Cond.code yX0_findHomes cX0_findHomes 3 none, Cond.fieldLink RX0 57 "PlaneFaces$Rounds" "twice" "[J", Cond.fieldLink RX0 22 "PlaneFaces$Faces" "segments" "LPlaneFaces$Segments;", Cond.fieldLink RX0 61 "PlaneFaces$Segments" "x" "[I", Cond.fieldLink RX0 66 "PlaneFaces$Segments" "y" "[I", Cond.methodLink RX0 50 yX1_pieceOfRound, Cond.instanceMethod yX1_pieceOfRound, Cond.selects RX1 yX1_pieceOfRound yX1_pieceOfRound, Cond.code yX1_pieceOfRound cX1_pieceOfRound 2 (some .int), Cond.methodLink RX0 69 yX1_enclosing, Cond.instanceMethod yX1_enclosing, Cond.selects RX1 yX1_enclosing yX1_enclosing]
def wsX3_locate_r6 : List Cond := [Cond.code yX1_enclosing cX1_enclosing 7 (some .int), Cond.fieldLink RX1 45 "PlaneFaces$Rounds" "odd" "[I", Cond.methodLink RX1 111 yX1_markOddRounds, Cond.instanceMethod yX1_markOddRounds, Cond.selects RX1 yX1_markOddRounds yX1_markOddRounds, Cond.code yX1_markOddRounds cX1_markOddRounds 4 none, Cond.methodLink RX1 117 yX2_roofs, Cond.instanceMethod yX2_roofs, Cond.selects RX2 yX2_roofs yX2_roofs, Cond.code yX2_roofs cX2_roofs 5 (some .boolean), Cond.methodLink RX2 58 yX2_rightward, Cond.instanceMethod yX2_rightward, Cond.selects RX2 yX2_rightward yX2_rightward, Cond.code yX2_rightward cX2_rightward 2 (some .int), Cond.methodLink RX2 46 yX2_side, Cond.instanceMethod yX2_side, Cond.selects RX2 yX2_side yX2_side, Cond.code yX2_side cX2_side 8 (some .long), Cond.methodLink RX1 114 yX1_pieceOfRound, Cond.methodLink RX0 46 yX0_numberFaces, Cond.instanceMethod yX0_numberFaces, Cond.selects RX0 yX0_numberFaces yX0_numberFaces, Cond.code yX0_numberFaces cX0_numberFaces 3 none, Cond.fieldLink RX0 27 "PlaneFaces$Faces" "number" "[I"]
def wsX3_locate_r7 : List Cond := [Cond.fieldLink RX0 39 "PlaneFaces$Faces" "size" "I", Cond.fieldLink RX0 79 "PlaneFaces$Segments" "used" "[Z", Cond.fieldLink RX0 83 "PlaneFaces$Rounds" "roundOf" "[I", Cond.methodLink RX0 73 yJ7_fill_53178, Cond.methodLink RX0 86 yX0_faceWithin, Cond.instanceMethod yX0_faceWithin, Cond.selects RX0 yX0_faceWithin yX0_faceWithin, Cond.code yX0_faceWithin cX0_faceWithin 2 (some .int), Cond.methodLink RX3 140 yX2_leastHalfAt, Cond.methodLink RX3 144 yX2_segmentThrough, Cond.instanceMethod yX2_segmentThrough, Cond.selects RX2 yX2_segmentThrough yX2_segmentThrough, Cond.code yX2_segmentThrough cX2_segmentThrough 4 (some .int), Cond.methodLink RX2 36 yX2_holds, Cond.instanceMethod yX2_holds, Cond.selects RX2 yX2_holds yX2_holds, Cond.code yX2_holds cX2_holds 8 (some .boolean), Cond.methodLink RX3 147 yX1_enclosing, Cond.methodLink RX3 151 yX0_faceWithin]
def wsX3_locate : List Cond := .code yX3_locate cX3_locate 5 (some .int) :: ((wsX3_locate_r1 ++ (wsX3_locate_r2 ++ (wsX3_locate_r3 ++ (wsX3_locate_r4 ++ (wsX3_locate_r5 ++ (wsX3_locate_r6 ++ wsX3_locate_r7)))))) ++ wsX30 ++ wsX10 ++ wsX20 ++ wsX00 ++ (vx_atS RX3 40 "java/lang/IllegalArgumentException" ["java/lang/RuntimeException", "java/lang/Exception"]).filter goodWord)
def wsX3_above_r1 : List Cond := [Cond.fieldLink RX3 27 "PlaneFaces" "segments" "LPlaneFaces$Segments;", Cond.methodLink RX3 32 yX3_requirePlace, Cond.static yX3_requirePlace, Cond.initialized RX3, Cond.code yX3_requirePlace cX3_requirePlace 2 none, Cond.classLink RX3 36 "java/lang/IllegalArgumentException", Cond.initialized "java/lang/IllegalArgumentException", Cond.methodLink RX3 154 yX2_firstUpFrom, Cond.instanceMethod yX2_firstUpFrom, Cond.selects RX2 yX2_firstUpFrom yX2_firstUpFrom, Cond.initialized RX2, Cond.code yX2_firstUpFrom cX2_firstUpFrom 13 (some .int), Cond.fieldLink RX2 18 "PlaneFaces$Segments" "used" "[Z", Cond.methodLink RX2 62 yX2_reachesAbove, Cond.instanceMethod yX2_reachesAbove, Cond.selects RX2 yX2_reachesAbove yX2_reachesAbove, Cond.code yX2_reachesAbove cX2_reachesAbove 5 (some .boolean), Cond.fieldLink RX2 9 "PlaneFaces$Segments" "x" "[I", Cond.fieldLink RX2 15 "PlaneFaces$Segments" "y" "[I", Cond.methodLink RX2 72 Lib.Math.max.name, Cond.static Lib.Math.max.name, Cond.initialized "java/lang/Math", Cond.code Lib.Math.max.name Lib.Math.max.code 2 (some .int), Cond.methodLink RX2 58 yX2_rightward]
def wsX3_above_r2 : List Cond := [Cond.instanceMethod yX2_rightward, Cond.selects RX2 yX2_rightward yX2_rightward, Cond.code yX2_rightward cX2_rightward 2 (some .int), Cond.methodLink RX2 46 yX2_side, Cond.instanceMethod yX2_side, Cond.selects RX2 yX2_side yX2_side, Cond.code yX2_side cX2_side 8 (some .long), Cond.methodLink RX2 65 yX2_height, Cond.instanceMethod yX2_height, Cond.selects RX2 yX2_height yX2_height, Cond.code yX2_height cX2_height 9 (some .long), Cond.methodLink RX2 78 Lib.Math.min.name, Cond.static Lib.Math.min.name, Cond.code Lib.Math.min.name Lib.Math.min.code 2 (some .int), Cond.methodLink RX2 68 yX2_width, Cond.instanceMethod yX2_width, Cond.selects RX2 yX2_width yX2_width, Cond.code yX2_width cX2_width 2 (some .long), Cond.methodLink RX2 81 Lib.Math.abs.name, Cond.static Lib.Math.abs.name, Cond.code Lib.Math.abs.name Lib.Math.abs.code 1 (some .int)]
def wsX3_above : List Cond := .code yX3_above cX3_above 3 (some .int) :: ((wsX3_above_r1 ++ wsX3_above_r2) ++ wsX30 ++ wsX20 ++ (vx_atS RX3 40 "java/lang/IllegalArgumentException" ["java/lang/RuntimeException", "java/lang/Exception"]).filter goodWord)
def wsX3_across_r1 : List Cond := [Cond.fieldLink RX3 12 "PlaneFaces" "faces" "LPlaneFaces$Faces;", Cond.methodLink RX3 79 yX3_refresh, Cond.instanceMethod yX3_refresh, Cond.selects RX3 yX3_refresh yX3_refresh, Cond.initialized RX3, Cond.code yX3_refresh cX3_refresh 1 none, Cond.fieldLink RX3 28 "PlaneFaces" "stale" "Z", Cond.fieldLink RX3 20 "PlaneFaces" "rounds" "LPlaneFaces$Rounds;", Cond.methodLink RX3 160 yX1_trace, Cond.instanceMethod yX1_trace, Cond.selects RX1 yX1_trace yX1_trace, Cond.initialized RX1, Cond.code yX1_trace cX1_trace 2 none, Cond.fieldLink RX1 22 "PlaneFaces$Rounds" "following" "[I", Cond.fieldLink RX1 12 "PlaneFaces$Rounds" "segments" "LPlaneFaces$Segments;", Cond.fieldLink RX1 54 "PlaneFaces$Segments" "used" "[Z", Cond.methodLink RX1 51 yX1_findCorners, Cond.instanceMethod yX1_findCorners, Cond.selects RX1 yX1_findCorners yX1_findCorners, Cond.code yX1_findCorners cX1_findCorners 2 none, Cond.fieldLink RX1 18 "PlaneFaces$Rounds" "corner" "[I", Cond.fieldLink RX1 71 "PlaneFaces$Segments" "x" "[I", Cond.fieldLink RX1 74 "PlaneFaces$Segments" "y" "[I", Cond.methodLink RX1 77 yX2_leastHalfAt]
def wsX3_across_r2 : List Cond := [Cond.instanceMethod yX2_leastHalfAt, Cond.selects RX2 yX2_leastHalfAt yX2_leastHalfAt, Cond.initialized RX2, Cond.code yX2_leastHalfAt cX2_leastHalfAt 4 (some .int), Cond.fieldLink RX2 18 "PlaneFaces$Segments" "used" "[Z", Cond.fieldLink RX2 9 "PlaneFaces$Segments" "x" "[I", Cond.fieldLink RX2 15 "PlaneFaces$Segments" "y" "[I", Cond.methodLink RX1 58 yX1_firstClockwise, Cond.instanceMethod yX1_firstClockwise, Cond.selects RX1 yX1_firstClockwise yX1_firstClockwise, Cond.code yX1_firstClockwise cX1_firstClockwise 5 (some .int), Cond.methodLink RX1 81 yX2_sooner, Cond.instanceMethod yX2_sooner, Cond.selects RX2 yX2_sooner yX2_sooner, Cond.code yX2_sooner cX2_sooner 6 (some .boolean), Cond.methodLink RX2 50 yX2_turn, Cond.instanceMethod yX2_turn, Cond.selects RX2 yX2_turn yX2_turn, Cond.code yX2_turn cX2_turn 7 (some .long), Cond.methodLink RX2 54 yX2_signOf, Cond.static yX2_signOf, Cond.code yX2_signOf cX2_signOf 2 (some .int), Cond.methodLink RX1 62 yX1_joinPieces, Cond.instanceMethod yX1_joinPieces]
def wsX3_across_r3 : List Cond := [Cond.selects RX1 yX1_joinPieces yX1_joinPieces, Cond.code yX1_joinPieces cX1_joinPieces 2 none, Cond.fieldLink RX1 25 "PlaneFaces$Rounds" "root" "[I", Cond.methodLink RX1 85 yX1_joinRoots, Cond.instanceMethod yX1_joinRoots, Cond.selects RX1 yX1_joinRoots yX1_joinRoots, Cond.code yX1_joinRoots cX1_joinRoots 4 none, Cond.methodLink RX1 89 Lib.Math.max.name, Cond.static Lib.Math.max.name, Cond.initialized "java/lang/Math", Cond.code Lib.Math.max.name Lib.Math.max.code 2 (some .int), Cond.methodLink RX1 94 Lib.Math.min.name, Cond.static Lib.Math.min.name, Cond.code Lib.Math.min.name Lib.Math.min.code 2 (some .int), Cond.methodLink RX1 65 yX1_numberPieces, Cond.instanceMethod yX1_numberPieces, Cond.selects RX1 yX1_numberPieces yX1_numberPieces, Cond.code yX1_numberPieces cX1_numberPieces 2 none, Cond.fieldLink RX1 31 "PlaneFaces$Rounds" "pieces" "I", Cond.fieldLink RX1 28 "PlaneFaces$Rounds" "pieceOf" "[I", Cond.methodLink RX1 68 yX1_walkRounds, Cond.instanceMethod yX1_walkRounds, Cond.selects RX1 yX1_walkRounds yX1_walkRounds, Cond.code yX1_walkRounds cX1_walkRounds 2 none]
def wsX3_across_r4 : List Cond := [Cond.fieldLink RX1 35 "PlaneFaces$Rounds" "roundOf" "[I", Cond.fieldLink RX1 48 "PlaneFaces$Rounds" "size" "I", Cond.methodLink RX1 97 yJ7_fill_53178, Cond.static yJ7_fill_53178, Cond.initialized RJ7, Cond.code yJ7_fill_53178 cJ7_fill_53178 4 none, Cond.methodLink RX1 103 yX1_walk, Cond.instanceMethod yX1_walk, Cond.selects RX1 yX1_walk yX1_walk, Cond.code yX1_walk cX1_walk 4 none, Cond.fieldLink RX1 38 "PlaneFaces$Rounds" "start" "[I", Cond.fieldLink RX1 41 "PlaneFaces$Rounds" "twice" "[J", Cond.methodLink RX1 107 yX2_sweep, Cond.instanceMethod yX2_sweep, Cond.selects RX2 yX2_sweep yX2_sweep, Cond.code yX2_sweep cX2_sweep 2 (some .long), Cond.methodLink RX3 163 yX0_settle, Cond.instanceMethod yX0_settle, Cond.selects RX0 yX0_settle yX0_settle, Cond.initialized RX0, Cond.code yX0_settle cX0_settle 2 none, Cond.fieldLink RX0 12 "PlaneFaces$Faces" "rounds" "LPlaneFaces$Rounds;", Cond.fieldLink RX0 49 "PlaneFaces$Rounds" "size" "I", Cond.fieldLink RX0 23 "PlaneFaces$Faces" "home" "[I"]
def wsX3_across_r5 : List Cond := [Cond.fieldLink RX0 33 "PlaneFaces$Faces" "outside" "[I", Cond.fieldLink RX0 30 "PlaneFaces$Faces" "faceOf" "[I", Cond.fieldLink RX0 54 "PlaneFaces$Rounds" "start" "[I", Cond.methodLink RX0 43 yX0_findHomes, Cond.instanceMethod yX0_findHomes, Cond.selects RX0 yX0_findHomes yX0_findHomes, Cond.code yX0_findHomes cX0_findHomes 3 none, Cond.fieldLink RX0 57 "PlaneFaces$Rounds" "twice" "[J", Cond.fieldLink RX0 22 "PlaneFaces$Faces" "segments" "LPlaneFaces$Segments;", Cond.fieldLink RX0 61 "PlaneFaces$Segments" "x" "[I", Cond.fieldLink RX0 66 "PlaneFaces$Segments" "y" "[I", Cond.methodLink RX0 50 yX1_pieceOfRound, Cond.instanceMethod yX1_pieceOfRound, Cond.selects RX1 yX1_pieceOfRound yX1_pieceOfRound, Cond.code yX1_pieceOfRound cX1_pieceOfRound 2 (some .int), Cond.methodLink RX0 69 yX1_enclosing, Cond.instanceMethod yX1_enclosing, Cond.selects RX1 yX1_enclosing yX1_enclosing, Cond.code yX1_enclosing cX1_enclosing 7 (some .int), Cond.fieldLink RX1 45 "PlaneFaces$Rounds" "odd" "[I", Cond.methodLink RX1 111 yX1_markOddRounds, Cond.instanceMethod yX1_markOddRounds, Cond.selects RX1 yX1_markOddRounds yX1_markOddRounds, Cond.code yX1_markOddRounds cX1_markOddRounds 4 none]
def wsX3_across_r6 : List Cond := [Cond.methodLink RX1 117 yX2_roofs, Cond.instanceMethod yX2_roofs, Cond.selects RX2 yX2_roofs yX2_roofs, Cond.code yX2_roofs cX2_roofs 5 (some .boolean), Cond.methodLink RX2 58 yX2_rightward, Cond.instanceMethod yX2_rightward, Cond.selects RX2 yX2_rightward yX2_rightward, Cond.code yX2_rightward cX2_rightward 2 (some .int), Cond.methodLink RX2 46 yX2_side, Cond.instanceMethod yX2_side, Cond.selects RX2 yX2_side yX2_side, Cond.code yX2_side cX2_side 8 (some .long), Cond.methodLink RX1 114 yX1_pieceOfRound, Cond.methodLink RX0 46 yX0_numberFaces, Cond.instanceMethod yX0_numberFaces, Cond.selects RX0 yX0_numberFaces yX0_numberFaces, Cond.code yX0_numberFaces cX0_numberFaces 3 none, Cond.fieldLink RX0 27 "PlaneFaces$Faces" "number" "[I", Cond.fieldLink RX0 39 "PlaneFaces$Faces" "size" "I", Cond.fieldLink RX0 79 "PlaneFaces$Segments" "used" "[Z", Cond.fieldLink RX0 83 "PlaneFaces$Rounds" "roundOf" "[I", Cond.methodLink RX0 73 yJ7_fill_53178, Cond.methodLink RX0 86 yX0_faceWithin, Cond.instanceMethod yX0_faceWithin]
def wsX3_across_r7 : List Cond := [Cond.selects RX0 yX0_faceWithin yX0_faceWithin, Cond.code yX0_faceWithin cX0_faceWithin 2 (some .int), Cond.methodLink RX3 120 yX3_requireFace, Cond.instanceMethod yX3_requireFace, Cond.selects RX3 yX3_requireFace yX3_requireFace, Cond.code yX3_requireFace cX3_requireFace 2 none, Cond.classLink RX3 112 "java/lang/IndexOutOfBoundsException", Cond.initialized "java/lang/IndexOutOfBoundsException", Cond.fieldLink RX3 85 "PlaneFaces$Faces" "size" "I", Cond.methodLink RX3 157 yX0_crossings, Cond.instanceMethod yX0_crossings, Cond.selects RX0 yX0_crossings yX0_crossings, Cond.code yX0_crossings cX0_crossings 5 (some .int), Cond.fieldLink RX0 36 "PlaneFaces$Faces" "steps" "[I", Cond.methodLink RX0 92 yX0_cross, Cond.instanceMethod yX0_cross, Cond.selects RX0 yX0_cross yX0_cross, Cond.code yX0_cross cX0_cross 4 none]
def wsX3_across : List Cond := .code yX3_across cX3_across 3 (some .int) :: ((wsX3_across_r1 ++ (wsX3_across_r2 ++ (wsX3_across_r3 ++ (wsX3_across_r4 ++ (wsX3_across_r5 ++ (wsX3_across_r6 ++ wsX3_across_r7)))))) ++ wsX30 ++ wsX10 ++ wsX20 ++ wsX00 ++ (vx_atS RX3 116 "java/lang/IndexOutOfBoundsException" ["java/lang/RuntimeException", "java/lang/Exception"]).filter goodWord)
def wsX4_init : List Cond := .code yX4_init cX4_init 1 none :: ([.methodLink RX4 1 objectInit, .instanceMethod objectInit, .code objectInit ⟨#[0xb1]⟩ 1 none, .arrayClass .boolean, .fieldLink RX4 7 "PlaneFacesModel" "isThere" "[Z", .arrayClass .int, .fieldLink RX4 13 "PlaneFacesModel" "xs" "[I", .fieldLink RX4 17 "PlaneFacesModel" "ys" "[I", .fieldLink RX4 20 "PlaneFacesModel" "nexts" "[I", .fieldLink RX4 23 "PlaneFacesModel" "pieceOf" "[I", .fieldLink RX4 26 "PlaneFacesModel" "roundOf" "[I", .fieldLink RX4 29 "PlaneFacesModel" "firsts" "[I", .arrayClass .long, .fieldLink RX4 32 "PlaneFacesModel" "areas" "[J", .fieldLink RX4 36 "PlaneFacesModel" "faceOf" "[I", .fieldLink RX4 39 "PlaneFacesModel" "numbers" "[I", .fieldLink RX4 42 "PlaneFacesModel" "steps" "[I"] ++ wsX40)
def wsX4_thrown : List Cond := .code yX4_thrown cX4_thrown 1 (some .int) :: ([.fieldLink RX4 45 "PlaneFacesModel" "refusal" "I"] ++ wsX40)
def wsX4_refused : List Cond := .code yX4_refused cX4_refused 2 (some .boolean) :: ([.fieldLink RX4 45 "PlaneFacesModel" "refusal" "I"] ++ wsX40)
def wsX4_isIn : List Cond := .code yX4_isIn cX4_isIn 1 (some .boolean) :: ([])
def wsX4_sign : List Cond := .code yX4_sign cX4_sign 2 (some .int) :: ([])
def wsX4_side : List Cond := .code yX4_side cX4_side 6 (some .int) :: ([.methodLink RX4 49 yX4_sign, .static yX4_sign, .initialized RX4, .code yX4_sign cX4_sign 2 (some .int)])
def wsX4_isOn : List Cond := .code yX4_isOn cX4_isOn 9 (some .boolean) :: ([.methodLink RX4 53 yX4_side, .static yX4_side, .initialized RX4, .code yX4_side cX4_side 6 (some .int), .methodLink RX4 49 yX4_sign, .static yX4_sign, .code yX4_sign cX4_sign 2 (some .int)])
def wsX4_isEnd : List Cond := .code yX4_isEnd cX4_isEnd 4 (some .boolean) :: ([.fieldLink RX4 13 "PlaneFacesModel" "xs" "[I", .fieldLink RX4 17 "PlaneFacesModel" "ys" "[I"] ++ wsX40)
def wsX4_meets : List Cond := .code yX4_meets cX4_meets 10 (some .boolean) :: ([.fieldLink RX4 13 "PlaneFacesModel" "xs" "[I", .fieldLink RX4 17 "PlaneFacesModel" "ys" "[I", .methodLink RX4 57 yX4_isEnd, .instanceMethod yX4_isEnd, .selects RX4 yX4_isEnd yX4_isEnd, .initialized RX4, .code yX4_isEnd cX4_isEnd 4 (some .boolean), .methodLink RX4 61 yX4_isOn, .static yX4_isOn, .code yX4_isOn cX4_isOn 9 (some .boolean), .methodLink RX4 53 yX4_side, .static yX4_side, .code yX4_side cX4_side 6 (some .int), .methodLink RX4 49 yX4_sign, .static yX4_sign, .code yX4_sign cX4_sign 2 (some .int)] ++ wsX40)
def wsX4_add_r1 : List Cond := [Cond.fieldLink RX4 7 "PlaneFacesModel" "isThere" "[Z", Cond.fieldLink RX4 13 "PlaneFacesModel" "xs" "[I", Cond.fieldLink RX4 17 "PlaneFacesModel" "ys" "[I", Cond.fieldLink RX4 76 "PlaneFacesModel" "isCurrent" "Z", Cond.methodLink RX4 65 yX4_isIn, Cond.static yX4_isIn, Cond.initialized RX4, Cond.code yX4_isIn cX4_isIn 1 (some .boolean), Cond.methodLink RX4 69 yX4_refused, Cond.instanceMethod yX4_refused, Cond.selects RX4 yX4_refused yX4_refused, Cond.code yX4_refused cX4_refused 2 (some .boolean), Cond.fieldLink RX4 45 "PlaneFacesModel" "refusal" "I", Cond.methodLink RX4 72 yX4_meets, Cond.instanceMethod yX4_meets, Cond.selects RX4 yX4_meets yX4_meets, Cond.code yX4_meets cX4_meets 10 (some .boolean), Cond.methodLink RX4 57 yX4_isEnd, Cond.instanceMethod yX4_isEnd, Cond.selects RX4 yX4_isEnd yX4_isEnd, Cond.code yX4_isEnd cX4_isEnd 4 (some .boolean), Cond.methodLink RX4 61 yX4_isOn, Cond.static yX4_isOn, Cond.code yX4_isOn cX4_isOn 9 (some .boolean)]
def wsX4_add_r2 : List Cond := [Cond.methodLink RX4 53 yX4_side, Cond.static yX4_side, Cond.code yX4_side cX4_side 6 (some .int), Cond.methodLink RX4 49 yX4_sign, Cond.static yX4_sign, Cond.code yX4_sign cX4_sign 2 (some .int)]
def wsX4_add : List Cond := .code yX4_add cX4_add 8 (some .int) :: ((wsX4_add_r1 ++ wsX4_add_r2) ++ wsX40)
def wsX4_remove : List Cond := .code yX4_remove cX4_remove 3 (some .boolean) :: ([.fieldLink RX4 45 "PlaneFacesModel" "refusal" "I", .fieldLink RX4 7 "PlaneFacesModel" "isThere" "[Z", .fieldLink RX4 76 "PlaneFacesModel" "isCurrent" "Z"] ++ wsX40)
def wsX4_clear : List Cond := .code yX4_clear cX4_clear 3 (some .int) :: ([.fieldLink RX4 45 "PlaneFacesModel" "refusal" "I", .fieldLink RX4 7 "PlaneFacesModel" "isThere" "[Z", .fieldLink RX4 76 "PlaneFacesModel" "isCurrent" "Z"] ++ wsX40)
def wsX4_isHalf : List Cond := .code yX4_isHalf cX4_isHalf 2 (some .boolean) :: ([.fieldLink RX4 7 "PlaneFacesModel" "isThere" "[Z"] ++ wsX40)
def wsX4_back : List Cond := .code yX4_back cX4_back 1 (some .int) :: ([])
def wsX4_leaves : List Cond := .code yX4_leaves cX4_leaves 4 (some .boolean) :: ([.fieldLink RX4 7 "PlaneFacesModel" "isThere" "[Z", .fieldLink RX4 13 "PlaneFacesModel" "xs" "[I", .fieldLink RX4 17 "PlaneFacesModel" "ys" "[I"] ++ wsX40)
def wsX4_crossOf : List Cond := .code yX4_crossOf cX4_crossOf 11 (some .long) :: ([.fieldLink RX4 13 "PlaneFacesModel" "xs" "[I", .fieldLink RX4 17 "PlaneFacesModel" "ys" "[I", .methodLink RX4 80 yX4_back, .static yX4_back, .initialized RX4, .code yX4_back cX4_back 1 (some .int)] ++ wsX40)
def wsX4_turned : List Cond := .code yX4_turned cX4_turned 5 (some .int) :: ([.methodLink RX4 84 yX4_crossOf, .instanceMethod yX4_crossOf, .selects RX4 yX4_crossOf yX4_crossOf, .initialized RX4, .code yX4_crossOf cX4_crossOf 11 (some .long), .fieldLink RX4 13 "PlaneFacesModel" "xs" "[I", .fieldLink RX4 17 "PlaneFacesModel" "ys" "[I", .methodLink RX4 80 yX4_back, .static yX4_back, .code yX4_back cX4_back 1 (some .int)] ++ wsX40)
def wsX4_nextOf : List Cond := .code yX4_nextOf cX4_nextOf 6 (some .int) :: ([.fieldLink RX4 13 "PlaneFacesModel" "xs" "[I", .fieldLink RX4 17 "PlaneFacesModel" "ys" "[I", .methodLink RX4 80 yX4_back, .static yX4_back, .initialized RX4, .code yX4_back cX4_back 1 (some .int), .methodLink RX4 88 yX4_leaves, .instanceMethod yX4_leaves, .selects RX4 yX4_leaves yX4_leaves, .code yX4_leaves cX4_leaves 4 (some .boolean), .fieldLink RX4 7 "PlaneFacesModel" "isThere" "[Z", .methodLink RX4 91 yX4_turned, .instanceMethod yX4_turned, .selects RX4 yX4_turned yX4_turned, .code yX4_turned cX4_turned 5 (some .int), .methodLink RX4 84 yX4_crossOf, .instanceMethod yX4_crossOf, .selects RX4 yX4_crossOf yX4_crossOf, .code yX4_crossOf cX4_crossOf 11 (some .long)] ++ wsX40)
def wsX4_spreadPiece : List Cond := .code yX4_spreadPiece cX4_spreadPiece 7 none :: ([.fieldLink RX4 23 "PlaneFacesModel" "pieceOf" "[I", .fieldLink RX4 7 "PlaneFacesModel" "isThere" "[Z", .fieldLink RX4 13 "PlaneFacesModel" "xs" "[I", .fieldLink RX4 17 "PlaneFacesModel" "ys" "[I", .methodLink RX4 80 yX4_back, .static yX4_back, .initialized RX4, .code yX4_back cX4_back 1 (some .int)] ++ wsX40)
def wsX4_makeRound : List Cond := .code yX4_makeRound cX4_makeRound 4 none :: ([.fieldLink RX4 29 "PlaneFacesModel" "firsts" "[I", .fieldLink RX4 95 "PlaneFacesModel" "rounds" "I", .fieldLink RX4 32 "PlaneFacesModel" "areas" "[J", .fieldLink RX4 26 "PlaneFacesModel" "roundOf" "[I", .fieldLink RX4 13 "PlaneFacesModel" "xs" "[I", .fieldLink RX4 17 "PlaneFacesModel" "ys" "[I", .fieldLink RX4 20 "PlaneFacesModel" "nexts" "[I", .methodLink RX4 80 yX4_back, .static yX4_back, .initialized RX4, .code yX4_back cX4_back 1 (some .int)] ++ wsX40)
def wsX4_isWithin : List Cond := .code yX4_isWithin cX4_isWithin 9 (some .boolean) :: ([.fieldLink RX4 7 "PlaneFacesModel" "isThere" "[Z", .fieldLink RX4 26 "PlaneFacesModel" "roundOf" "[I", .fieldLink RX4 13 "PlaneFacesModel" "xs" "[I", .fieldLink RX4 17 "PlaneFacesModel" "ys" "[I", .methodLink RX4 80 yX4_back, .static yX4_back, .initialized RX4, .code yX4_back cX4_back 1 (some .int), .methodLink RX4 53 yX4_side, .static yX4_side, .code yX4_side cX4_side 6 (some .int), .methodLink RX4 49 yX4_sign, .static yX4_sign, .code yX4_sign cX4_sign 2 (some .int)] ++ wsX40)
def wsX4_least : List Cond := .code yX4_least cX4_least 7 (some .int) :: ([.fieldLink RX4 95 "PlaneFacesModel" "rounds" "I", .fieldLink RX4 32 "PlaneFacesModel" "areas" "[J", .fieldLink RX4 23 "PlaneFacesModel" "pieceOf" "[I", .fieldLink RX4 29 "PlaneFacesModel" "firsts" "[I", .methodLink RX4 98 yX4_isWithin, .instanceMethod yX4_isWithin, .selects RX4 yX4_isWithin yX4_isWithin, .initialized RX4, .code yX4_isWithin cX4_isWithin 9 (some .boolean), .fieldLink RX4 7 "PlaneFacesModel" "isThere" "[Z", .fieldLink RX4 26 "PlaneFacesModel" "roundOf" "[I", .fieldLink RX4 13 "PlaneFacesModel" "xs" "[I", .fieldLink RX4 17 "PlaneFacesModel" "ys" "[I", .methodLink RX4 80 yX4_back, .static yX4_back, .code yX4_back cX4_back 1 (some .int), .methodLink RX4 53 yX4_side, .static yX4_side, .code yX4_side cX4_side 6 (some .int), .methodLink RX4 49 yX4_sign, .static yX4_sign, .code yX4_sign cX4_sign 2 (some .int)] ++ wsX40)
def wsX4_number_r1 : List Cond := [Cond.fieldLink RX4 118 "PlaneFacesModel" "faces" "I", Cond.fieldLink RX4 95 "PlaneFacesModel" "rounds" "I", Cond.fieldLink RX4 39 "PlaneFacesModel" "numbers" "[I", Cond.fieldLink RX4 29 "PlaneFacesModel" "firsts" "[I", Cond.fieldLink RX4 32 "PlaneFacesModel" "areas" "[J", Cond.fieldLink RX4 13 "PlaneFacesModel" "xs" "[I", Cond.fieldLink RX4 17 "PlaneFacesModel" "ys" "[I", Cond.fieldLink RX4 23 "PlaneFacesModel" "pieceOf" "[I", Cond.fieldLink RX4 36 "PlaneFacesModel" "faceOf" "[I", Cond.methodLink RX4 121 yX4_least, Cond.instanceMethod yX4_least, Cond.selects RX4 yX4_least yX4_least, Cond.initialized RX4, Cond.code yX4_least cX4_least 7 (some .int), Cond.methodLink RX4 98 yX4_isWithin, Cond.instanceMethod yX4_isWithin, Cond.selects RX4 yX4_isWithin yX4_isWithin, Cond.code yX4_isWithin cX4_isWithin 9 (some .boolean), Cond.fieldLink RX4 7 "PlaneFacesModel" "isThere" "[Z", Cond.fieldLink RX4 26 "PlaneFacesModel" "roundOf" "[I", Cond.methodLink RX4 80 yX4_back, Cond.static yX4_back, Cond.code yX4_back cX4_back 1 (some .int), Cond.methodLink RX4 53 yX4_side]
def wsX4_number_r2 : List Cond := [Cond.static yX4_side, Cond.code yX4_side cX4_side 6 (some .int), Cond.methodLink RX4 49 yX4_sign, Cond.static yX4_sign, Cond.code yX4_sign cX4_sign 2 (some .int)]
def wsX4_number : List Cond := .code yX4_number cX4_number 4 none :: ((wsX4_number_r1 ++ wsX4_number_r2) ++ wsX40)
def wsX4_make_r1 : List Cond := [Cond.fieldLink RX4 76 "PlaneFacesModel" "isCurrent" "Z", Cond.fieldLink RX4 101 "PlaneFacesModel" "pieces" "I", Cond.fieldLink RX4 95 "PlaneFacesModel" "rounds" "I", Cond.fieldLink RX4 23 "PlaneFacesModel" "pieceOf" "[I", Cond.fieldLink RX4 26 "PlaneFacesModel" "roundOf" "[I", Cond.fieldLink RX4 7 "PlaneFacesModel" "isThere" "[Z", Cond.fieldLink RX4 20 "PlaneFacesModel" "nexts" "[I", Cond.methodLink RX4 104 yX4_nextOf, Cond.instanceMethod yX4_nextOf, Cond.selects RX4 yX4_nextOf yX4_nextOf, Cond.initialized RX4, Cond.code yX4_nextOf cX4_nextOf 6 (some .int), Cond.fieldLink RX4 13 "PlaneFacesModel" "xs" "[I", Cond.fieldLink RX4 17 "PlaneFacesModel" "ys" "[I", Cond.methodLink RX4 80 yX4_back, Cond.static yX4_back, Cond.code yX4_back cX4_back 1 (some .int), Cond.methodLink RX4 88 yX4_leaves, Cond.instanceMethod yX4_leaves, Cond.selects RX4 yX4_leaves yX4_leaves, Cond.code yX4_leaves cX4_leaves 4 (some .boolean), Cond.methodLink RX4 91 yX4_turned, Cond.instanceMethod yX4_turned, Cond.selects RX4 yX4_turned yX4_turned]
def wsX4_make_r2 : List Cond := [Cond.code yX4_turned cX4_turned 5 (some .int), Cond.methodLink RX4 84 yX4_crossOf, Cond.instanceMethod yX4_crossOf, Cond.selects RX4 yX4_crossOf yX4_crossOf, Cond.code yX4_crossOf cX4_crossOf 11 (some .long), Cond.methodLink RX4 107 yX4_spreadPiece, Cond.instanceMethod yX4_spreadPiece, Cond.selects RX4 yX4_spreadPiece yX4_spreadPiece, Cond.code yX4_spreadPiece cX4_spreadPiece 7 none, Cond.methodLink RX4 111 yX4_makeRound, Cond.instanceMethod yX4_makeRound, Cond.selects RX4 yX4_makeRound yX4_makeRound, Cond.code yX4_makeRound cX4_makeRound 4 none, Cond.fieldLink RX4 29 "PlaneFacesModel" "firsts" "[I", Cond.fieldLink RX4 32 "PlaneFacesModel" "areas" "[J", Cond.methodLink RX4 115 yX4_number, Cond.instanceMethod yX4_number, Cond.selects RX4 yX4_number yX4_number, Cond.code yX4_number cX4_number 4 none, Cond.fieldLink RX4 118 "PlaneFacesModel" "faces" "I", Cond.fieldLink RX4 39 "PlaneFacesModel" "numbers" "[I", Cond.fieldLink RX4 36 "PlaneFacesModel" "faceOf" "[I", Cond.methodLink RX4 121 yX4_least, Cond.instanceMethod yX4_least]
def wsX4_make_r3 : List Cond := [Cond.selects RX4 yX4_least yX4_least, Cond.code yX4_least cX4_least 7 (some .int), Cond.methodLink RX4 98 yX4_isWithin, Cond.instanceMethod yX4_isWithin, Cond.selects RX4 yX4_isWithin yX4_isWithin, Cond.code yX4_isWithin cX4_isWithin 9 (some .boolean), Cond.methodLink RX4 53 yX4_side, Cond.static yX4_side, Cond.code yX4_side cX4_side 6 (some .int), Cond.methodLink RX4 49 yX4_sign, Cond.static yX4_sign, Cond.code yX4_sign cX4_sign 2 (some .int)]
def wsX4_make : List Cond := .code yX4_make cX4_make 2 none :: ((wsX4_make_r1 ++ (wsX4_make_r2 ++ wsX4_make_r3)) ++ wsX40)
def wsX4_left : List Cond := .code yX4_left cX4_left 2 (some .int) :: ([.fieldLink RX4 36 "PlaneFacesModel" "faceOf" "[I", .fieldLink RX4 26 "PlaneFacesModel" "roundOf" "[I"] ++ wsX40)
def wsX4_count_r1 : List Cond := [Cond.fieldLink RX4 45 "PlaneFacesModel" "refusal" "I", Cond.fieldLink RX4 118 "PlaneFacesModel" "faces" "I", Cond.fieldLink RX4 101 "PlaneFacesModel" "pieces" "I", Cond.fieldLink RX4 95 "PlaneFacesModel" "rounds" "I", Cond.fieldLink RX4 7 "PlaneFacesModel" "isThere" "[Z", Cond.fieldLink RX4 13 "PlaneFacesModel" "xs" "[I", Cond.fieldLink RX4 17 "PlaneFacesModel" "ys" "[I", Cond.methodLink RX4 125 yX4_make, Cond.instanceMethod yX4_make, Cond.selects RX4 yX4_make yX4_make, Cond.initialized RX4, Cond.code yX4_make cX4_make 2 none, Cond.fieldLink RX4 76 "PlaneFacesModel" "isCurrent" "Z", Cond.fieldLink RX4 23 "PlaneFacesModel" "pieceOf" "[I", Cond.fieldLink RX4 26 "PlaneFacesModel" "roundOf" "[I", Cond.fieldLink RX4 20 "PlaneFacesModel" "nexts" "[I", Cond.methodLink RX4 104 yX4_nextOf, Cond.instanceMethod yX4_nextOf, Cond.selects RX4 yX4_nextOf yX4_nextOf, Cond.code yX4_nextOf cX4_nextOf 6 (some .int), Cond.methodLink RX4 80 yX4_back, Cond.static yX4_back, Cond.code yX4_back cX4_back 1 (some .int), Cond.methodLink RX4 88 yX4_leaves]
def wsX4_count_r2 : List Cond := [Cond.instanceMethod yX4_leaves, Cond.selects RX4 yX4_leaves yX4_leaves, Cond.code yX4_leaves cX4_leaves 4 (some .boolean), Cond.methodLink RX4 91 yX4_turned, Cond.instanceMethod yX4_turned, Cond.selects RX4 yX4_turned yX4_turned, Cond.code yX4_turned cX4_turned 5 (some .int), Cond.methodLink RX4 84 yX4_crossOf, Cond.instanceMethod yX4_crossOf, Cond.selects RX4 yX4_crossOf yX4_crossOf, Cond.code yX4_crossOf cX4_crossOf 11 (some .long), Cond.methodLink RX4 107 yX4_spreadPiece, Cond.instanceMethod yX4_spreadPiece, Cond.selects RX4 yX4_spreadPiece yX4_spreadPiece, Cond.code yX4_spreadPiece cX4_spreadPiece 7 none, Cond.methodLink RX4 111 yX4_makeRound, Cond.instanceMethod yX4_makeRound, Cond.selects RX4 yX4_makeRound yX4_makeRound, Cond.code yX4_makeRound cX4_makeRound 4 none, Cond.fieldLink RX4 29 "PlaneFacesModel" "firsts" "[I", Cond.fieldLink RX4 32 "PlaneFacesModel" "areas" "[J", Cond.methodLink RX4 115 yX4_number, Cond.instanceMethod yX4_number, Cond.selects RX4 yX4_number yX4_number]
def wsX4_count_r3 : List Cond := [Cond.code yX4_number cX4_number 4 none, Cond.fieldLink RX4 39 "PlaneFacesModel" "numbers" "[I", Cond.fieldLink RX4 36 "PlaneFacesModel" "faceOf" "[I", Cond.methodLink RX4 121 yX4_least, Cond.instanceMethod yX4_least, Cond.selects RX4 yX4_least yX4_least, Cond.code yX4_least cX4_least 7 (some .int), Cond.methodLink RX4 98 yX4_isWithin, Cond.instanceMethod yX4_isWithin, Cond.selects RX4 yX4_isWithin yX4_isWithin, Cond.code yX4_isWithin cX4_isWithin 9 (some .boolean), Cond.methodLink RX4 53 yX4_side, Cond.static yX4_side, Cond.code yX4_side cX4_side 6 (some .int), Cond.methodLink RX4 49 yX4_sign, Cond.static yX4_sign, Cond.code yX4_sign cX4_sign 2 (some .int), Cond.methodLink RX4 128 yX4_left, Cond.instanceMethod yX4_left, Cond.selects RX4 yX4_left yX4_left, Cond.code yX4_left cX4_left 2 (some .int)]
def wsX4_count : List Cond := .code yX4_count cX4_count 6 (some .int) :: ((wsX4_count_r1 ++ (wsX4_count_r2 ++ wsX4_count_r3)) ++ wsX40)
def wsX4_begins : List Cond := .code yX4_begins cX4_begins 3 (some .int) :: ([.fieldLink RX4 17 "PlaneFacesModel" "ys" "[I", .fieldLink RX4 13 "PlaneFacesModel" "xs" "[I", .methodLink RX4 131 yX4_isHalf, .instanceMethod yX4_isHalf, .selects RX4 yX4_isHalf yX4_isHalf, .initialized RX4, .code yX4_isHalf cX4_isHalf 2 (some .boolean), .fieldLink RX4 7 "PlaneFacesModel" "isThere" "[Z", .methodLink RX4 69 yX4_refused, .instanceMethod yX4_refused, .selects RX4 yX4_refused yX4_refused, .code yX4_refused cX4_refused 2 (some .boolean), .fieldLink RX4 45 "PlaneFacesModel" "refusal" "I"] ++ wsX40)
def wsX4_next_r1 : List Cond := [Cond.fieldLink RX4 20 "PlaneFacesModel" "nexts" "[I", Cond.methodLink RX4 131 yX4_isHalf, Cond.instanceMethod yX4_isHalf, Cond.selects RX4 yX4_isHalf yX4_isHalf, Cond.initialized RX4, Cond.code yX4_isHalf cX4_isHalf 2 (some .boolean), Cond.fieldLink RX4 7 "PlaneFacesModel" "isThere" "[Z", Cond.methodLink RX4 69 yX4_refused, Cond.instanceMethod yX4_refused, Cond.selects RX4 yX4_refused yX4_refused, Cond.code yX4_refused cX4_refused 2 (some .boolean), Cond.fieldLink RX4 45 "PlaneFacesModel" "refusal" "I", Cond.methodLink RX4 125 yX4_make, Cond.instanceMethod yX4_make, Cond.selects RX4 yX4_make yX4_make, Cond.code yX4_make cX4_make 2 none, Cond.fieldLink RX4 76 "PlaneFacesModel" "isCurrent" "Z", Cond.fieldLink RX4 101 "PlaneFacesModel" "pieces" "I", Cond.fieldLink RX4 95 "PlaneFacesModel" "rounds" "I", Cond.fieldLink RX4 23 "PlaneFacesModel" "pieceOf" "[I", Cond.fieldLink RX4 26 "PlaneFacesModel" "roundOf" "[I", Cond.methodLink RX4 104 yX4_nextOf, Cond.instanceMethod yX4_nextOf, Cond.selects RX4 yX4_nextOf yX4_nextOf]
def wsX4_next_r2 : List Cond := [Cond.code yX4_nextOf cX4_nextOf 6 (some .int), Cond.fieldLink RX4 13 "PlaneFacesModel" "xs" "[I", Cond.fieldLink RX4 17 "PlaneFacesModel" "ys" "[I", Cond.methodLink RX4 80 yX4_back, Cond.static yX4_back, Cond.code yX4_back cX4_back 1 (some .int), Cond.methodLink RX4 88 yX4_leaves, Cond.instanceMethod yX4_leaves, Cond.selects RX4 yX4_leaves yX4_leaves, Cond.code yX4_leaves cX4_leaves 4 (some .boolean), Cond.methodLink RX4 91 yX4_turned, Cond.instanceMethod yX4_turned, Cond.selects RX4 yX4_turned yX4_turned, Cond.code yX4_turned cX4_turned 5 (some .int), Cond.methodLink RX4 84 yX4_crossOf, Cond.instanceMethod yX4_crossOf, Cond.selects RX4 yX4_crossOf yX4_crossOf, Cond.code yX4_crossOf cX4_crossOf 11 (some .long), Cond.methodLink RX4 107 yX4_spreadPiece, Cond.instanceMethod yX4_spreadPiece, Cond.selects RX4 yX4_spreadPiece yX4_spreadPiece, Cond.code yX4_spreadPiece cX4_spreadPiece 7 none, Cond.methodLink RX4 111 yX4_makeRound, Cond.instanceMethod yX4_makeRound]
def wsX4_next_r3 : List Cond := [Cond.selects RX4 yX4_makeRound yX4_makeRound, Cond.code yX4_makeRound cX4_makeRound 4 none, Cond.fieldLink RX4 29 "PlaneFacesModel" "firsts" "[I", Cond.fieldLink RX4 32 "PlaneFacesModel" "areas" "[J", Cond.methodLink RX4 115 yX4_number, Cond.instanceMethod yX4_number, Cond.selects RX4 yX4_number yX4_number, Cond.code yX4_number cX4_number 4 none, Cond.fieldLink RX4 118 "PlaneFacesModel" "faces" "I", Cond.fieldLink RX4 39 "PlaneFacesModel" "numbers" "[I", Cond.fieldLink RX4 36 "PlaneFacesModel" "faceOf" "[I", Cond.methodLink RX4 121 yX4_least, Cond.instanceMethod yX4_least, Cond.selects RX4 yX4_least yX4_least, Cond.code yX4_least cX4_least 7 (some .int), Cond.methodLink RX4 98 yX4_isWithin, Cond.instanceMethod yX4_isWithin, Cond.selects RX4 yX4_isWithin yX4_isWithin, Cond.code yX4_isWithin cX4_isWithin 9 (some .boolean), Cond.methodLink RX4 53 yX4_side, Cond.static yX4_side, Cond.code yX4_side cX4_side 6 (some .int), Cond.methodLink RX4 49 yX4_sign, Cond.static yX4_sign]
def wsX4_next_r4 : List Cond := [Cond.code yX4_sign cX4_sign 2 (some .int)]
def wsX4_next : List Cond := .code yX4_next cX4_next 2 (some .int) :: ((wsX4_next_r1 ++ (wsX4_next_r2 ++ (wsX4_next_r3 ++ wsX4_next_r4))) ++ wsX40)
def wsX4_face_r1 : List Cond := [Cond.methodLink RX4 131 yX4_isHalf, Cond.instanceMethod yX4_isHalf, Cond.selects RX4 yX4_isHalf yX4_isHalf, Cond.initialized RX4, Cond.code yX4_isHalf cX4_isHalf 2 (some .boolean), Cond.fieldLink RX4 7 "PlaneFacesModel" "isThere" "[Z", Cond.methodLink RX4 69 yX4_refused, Cond.instanceMethod yX4_refused, Cond.selects RX4 yX4_refused yX4_refused, Cond.code yX4_refused cX4_refused 2 (some .boolean), Cond.fieldLink RX4 45 "PlaneFacesModel" "refusal" "I", Cond.methodLink RX4 125 yX4_make, Cond.instanceMethod yX4_make, Cond.selects RX4 yX4_make yX4_make, Cond.code yX4_make cX4_make 2 none, Cond.fieldLink RX4 76 "PlaneFacesModel" "isCurrent" "Z", Cond.fieldLink RX4 101 "PlaneFacesModel" "pieces" "I", Cond.fieldLink RX4 95 "PlaneFacesModel" "rounds" "I", Cond.fieldLink RX4 23 "PlaneFacesModel" "pieceOf" "[I", Cond.fieldLink RX4 26 "PlaneFacesModel" "roundOf" "[I", Cond.fieldLink RX4 20 "PlaneFacesModel" "nexts" "[I", Cond.methodLink RX4 104 yX4_nextOf, Cond.instanceMethod yX4_nextOf, Cond.selects RX4 yX4_nextOf yX4_nextOf]
def wsX4_face_r2 : List Cond := [Cond.code yX4_nextOf cX4_nextOf 6 (some .int), Cond.fieldLink RX4 13 "PlaneFacesModel" "xs" "[I", Cond.fieldLink RX4 17 "PlaneFacesModel" "ys" "[I", Cond.methodLink RX4 80 yX4_back, Cond.static yX4_back, Cond.code yX4_back cX4_back 1 (some .int), Cond.methodLink RX4 88 yX4_leaves, Cond.instanceMethod yX4_leaves, Cond.selects RX4 yX4_leaves yX4_leaves, Cond.code yX4_leaves cX4_leaves 4 (some .boolean), Cond.methodLink RX4 91 yX4_turned, Cond.instanceMethod yX4_turned, Cond.selects RX4 yX4_turned yX4_turned, Cond.code yX4_turned cX4_turned 5 (some .int), Cond.methodLink RX4 84 yX4_crossOf, Cond.instanceMethod yX4_crossOf, Cond.selects RX4 yX4_crossOf yX4_crossOf, Cond.code yX4_crossOf cX4_crossOf 11 (some .long), Cond.methodLink RX4 107 yX4_spreadPiece, Cond.instanceMethod yX4_spreadPiece, Cond.selects RX4 yX4_spreadPiece yX4_spreadPiece, Cond.code yX4_spreadPiece cX4_spreadPiece 7 none, Cond.methodLink RX4 111 yX4_makeRound, Cond.instanceMethod yX4_makeRound]
def wsX4_face_r3 : List Cond := [Cond.selects RX4 yX4_makeRound yX4_makeRound, Cond.code yX4_makeRound cX4_makeRound 4 none, Cond.fieldLink RX4 29 "PlaneFacesModel" "firsts" "[I", Cond.fieldLink RX4 32 "PlaneFacesModel" "areas" "[J", Cond.methodLink RX4 115 yX4_number, Cond.instanceMethod yX4_number, Cond.selects RX4 yX4_number yX4_number, Cond.code yX4_number cX4_number 4 none, Cond.fieldLink RX4 118 "PlaneFacesModel" "faces" "I", Cond.fieldLink RX4 39 "PlaneFacesModel" "numbers" "[I", Cond.fieldLink RX4 36 "PlaneFacesModel" "faceOf" "[I", Cond.methodLink RX4 121 yX4_least, Cond.instanceMethod yX4_least, Cond.selects RX4 yX4_least yX4_least, Cond.code yX4_least cX4_least 7 (some .int), Cond.methodLink RX4 98 yX4_isWithin, Cond.instanceMethod yX4_isWithin, Cond.selects RX4 yX4_isWithin yX4_isWithin, Cond.code yX4_isWithin cX4_isWithin 9 (some .boolean), Cond.methodLink RX4 53 yX4_side, Cond.static yX4_side, Cond.code yX4_side cX4_side 6 (some .int), Cond.methodLink RX4 49 yX4_sign, Cond.static yX4_sign]
def wsX4_face_r4 : List Cond := [Cond.code yX4_sign cX4_sign 2 (some .int), Cond.methodLink RX4 128 yX4_left, Cond.instanceMethod yX4_left, Cond.selects RX4 yX4_left yX4_left, Cond.code yX4_left cX4_left 2 (some .int)]
def wsX4_face : List Cond := .code yX4_face cX4_face 2 (some .int) :: ((wsX4_face_r1 ++ (wsX4_face_r2 ++ (wsX4_face_r3 ++ wsX4_face_r4))) ++ wsX40)
def wsX4_piece_r1 : List Cond := [Cond.fieldLink RX4 23 "PlaneFacesModel" "pieceOf" "[I", Cond.methodLink RX4 131 yX4_isHalf, Cond.instanceMethod yX4_isHalf, Cond.selects RX4 yX4_isHalf yX4_isHalf, Cond.initialized RX4, Cond.code yX4_isHalf cX4_isHalf 2 (some .boolean), Cond.fieldLink RX4 7 "PlaneFacesModel" "isThere" "[Z", Cond.methodLink RX4 69 yX4_refused, Cond.instanceMethod yX4_refused, Cond.selects RX4 yX4_refused yX4_refused, Cond.code yX4_refused cX4_refused 2 (some .boolean), Cond.fieldLink RX4 45 "PlaneFacesModel" "refusal" "I", Cond.methodLink RX4 125 yX4_make, Cond.instanceMethod yX4_make, Cond.selects RX4 yX4_make yX4_make, Cond.code yX4_make cX4_make 2 none, Cond.fieldLink RX4 76 "PlaneFacesModel" "isCurrent" "Z", Cond.fieldLink RX4 101 "PlaneFacesModel" "pieces" "I", Cond.fieldLink RX4 95 "PlaneFacesModel" "rounds" "I", Cond.fieldLink RX4 26 "PlaneFacesModel" "roundOf" "[I", Cond.fieldLink RX4 20 "PlaneFacesModel" "nexts" "[I", Cond.methodLink RX4 104 yX4_nextOf, Cond.instanceMethod yX4_nextOf, Cond.selects RX4 yX4_nextOf yX4_nextOf]
def wsX4_piece_r2 : List Cond := [Cond.code yX4_nextOf cX4_nextOf 6 (some .int), Cond.fieldLink RX4 13 "PlaneFacesModel" "xs" "[I", Cond.fieldLink RX4 17 "PlaneFacesModel" "ys" "[I", Cond.methodLink RX4 80 yX4_back, Cond.static yX4_back, Cond.code yX4_back cX4_back 1 (some .int), Cond.methodLink RX4 88 yX4_leaves, Cond.instanceMethod yX4_leaves, Cond.selects RX4 yX4_leaves yX4_leaves, Cond.code yX4_leaves cX4_leaves 4 (some .boolean), Cond.methodLink RX4 91 yX4_turned, Cond.instanceMethod yX4_turned, Cond.selects RX4 yX4_turned yX4_turned, Cond.code yX4_turned cX4_turned 5 (some .int), Cond.methodLink RX4 84 yX4_crossOf, Cond.instanceMethod yX4_crossOf, Cond.selects RX4 yX4_crossOf yX4_crossOf, Cond.code yX4_crossOf cX4_crossOf 11 (some .long), Cond.methodLink RX4 107 yX4_spreadPiece, Cond.instanceMethod yX4_spreadPiece, Cond.selects RX4 yX4_spreadPiece yX4_spreadPiece, Cond.code yX4_spreadPiece cX4_spreadPiece 7 none, Cond.methodLink RX4 111 yX4_makeRound, Cond.instanceMethod yX4_makeRound]
def wsX4_piece_r3 : List Cond := [Cond.selects RX4 yX4_makeRound yX4_makeRound, Cond.code yX4_makeRound cX4_makeRound 4 none, Cond.fieldLink RX4 29 "PlaneFacesModel" "firsts" "[I", Cond.fieldLink RX4 32 "PlaneFacesModel" "areas" "[J", Cond.methodLink RX4 115 yX4_number, Cond.instanceMethod yX4_number, Cond.selects RX4 yX4_number yX4_number, Cond.code yX4_number cX4_number 4 none, Cond.fieldLink RX4 118 "PlaneFacesModel" "faces" "I", Cond.fieldLink RX4 39 "PlaneFacesModel" "numbers" "[I", Cond.fieldLink RX4 36 "PlaneFacesModel" "faceOf" "[I", Cond.methodLink RX4 121 yX4_least, Cond.instanceMethod yX4_least, Cond.selects RX4 yX4_least yX4_least, Cond.code yX4_least cX4_least 7 (some .int), Cond.methodLink RX4 98 yX4_isWithin, Cond.instanceMethod yX4_isWithin, Cond.selects RX4 yX4_isWithin yX4_isWithin, Cond.code yX4_isWithin cX4_isWithin 9 (some .boolean), Cond.methodLink RX4 53 yX4_side, Cond.static yX4_side, Cond.code yX4_side cX4_side 6 (some .int), Cond.methodLink RX4 49 yX4_sign, Cond.static yX4_sign]
def wsX4_piece_r4 : List Cond := [Cond.code yX4_sign cX4_sign 2 (some .int)]
def wsX4_piece : List Cond := .code yX4_piece cX4_piece 2 (some .int) :: ((wsX4_piece_r1 ++ (wsX4_piece_r2 ++ (wsX4_piece_r3 ++ wsX4_piece_r4))) ++ wsX40)
def wsX4_outer : List Cond := .code yX4_outer cX4_outer 4 (some .int) :: ([.fieldLink RX4 95 "PlaneFacesModel" "rounds" "I", .fieldLink RX4 23 "PlaneFacesModel" "pieceOf" "[I", .fieldLink RX4 29 "PlaneFacesModel" "firsts" "[I", .fieldLink RX4 32 "PlaneFacesModel" "areas" "[J"] ++ wsX40)
def wsX4_around_r1 : List Cond := [Cond.fieldLink RX4 101 "PlaneFacesModel" "pieces" "I", Cond.fieldLink RX4 36 "PlaneFacesModel" "faceOf" "[I", Cond.methodLink RX4 125 yX4_make, Cond.instanceMethod yX4_make, Cond.selects RX4 yX4_make yX4_make, Cond.initialized RX4, Cond.code yX4_make cX4_make 2 none, Cond.fieldLink RX4 76 "PlaneFacesModel" "isCurrent" "Z", Cond.fieldLink RX4 95 "PlaneFacesModel" "rounds" "I", Cond.fieldLink RX4 23 "PlaneFacesModel" "pieceOf" "[I", Cond.fieldLink RX4 26 "PlaneFacesModel" "roundOf" "[I", Cond.fieldLink RX4 7 "PlaneFacesModel" "isThere" "[Z", Cond.fieldLink RX4 20 "PlaneFacesModel" "nexts" "[I", Cond.methodLink RX4 104 yX4_nextOf, Cond.instanceMethod yX4_nextOf, Cond.selects RX4 yX4_nextOf yX4_nextOf, Cond.code yX4_nextOf cX4_nextOf 6 (some .int), Cond.fieldLink RX4 13 "PlaneFacesModel" "xs" "[I", Cond.fieldLink RX4 17 "PlaneFacesModel" "ys" "[I", Cond.methodLink RX4 80 yX4_back, Cond.static yX4_back, Cond.code yX4_back cX4_back 1 (some .int), Cond.methodLink RX4 88 yX4_leaves, Cond.instanceMethod yX4_leaves]
def wsX4_around_r2 : List Cond := [Cond.selects RX4 yX4_leaves yX4_leaves, Cond.code yX4_leaves cX4_leaves 4 (some .boolean), Cond.methodLink RX4 91 yX4_turned, Cond.instanceMethod yX4_turned, Cond.selects RX4 yX4_turned yX4_turned, Cond.code yX4_turned cX4_turned 5 (some .int), Cond.methodLink RX4 84 yX4_crossOf, Cond.instanceMethod yX4_crossOf, Cond.selects RX4 yX4_crossOf yX4_crossOf, Cond.code yX4_crossOf cX4_crossOf 11 (some .long), Cond.methodLink RX4 107 yX4_spreadPiece, Cond.instanceMethod yX4_spreadPiece, Cond.selects RX4 yX4_spreadPiece yX4_spreadPiece, Cond.code yX4_spreadPiece cX4_spreadPiece 7 none, Cond.methodLink RX4 111 yX4_makeRound, Cond.instanceMethod yX4_makeRound, Cond.selects RX4 yX4_makeRound yX4_makeRound, Cond.code yX4_makeRound cX4_makeRound 4 none, Cond.fieldLink RX4 29 "PlaneFacesModel" "firsts" "[I", Cond.fieldLink RX4 32 "PlaneFacesModel" "areas" "[J", Cond.methodLink RX4 115 yX4_number, Cond.instanceMethod yX4_number, Cond.selects RX4 yX4_number yX4_number, Cond.code yX4_number cX4_number 4 none]
def wsX4_around_r3 : List Cond := [Cond.fieldLink RX4 118 "PlaneFacesModel" "faces" "I", Cond.fieldLink RX4 39 "PlaneFacesModel" "numbers" "[I", Cond.methodLink RX4 121 yX4_least, Cond.instanceMethod yX4_least, Cond.selects RX4 yX4_least yX4_least, Cond.code yX4_least cX4_least 7 (some .int), Cond.methodLink RX4 98 yX4_isWithin, Cond.instanceMethod yX4_isWithin, Cond.selects RX4 yX4_isWithin yX4_isWithin, Cond.code yX4_isWithin cX4_isWithin 9 (some .boolean), Cond.methodLink RX4 53 yX4_side, Cond.static yX4_side, Cond.code yX4_side cX4_side 6 (some .int), Cond.methodLink RX4 49 yX4_sign, Cond.static yX4_sign, Cond.code yX4_sign cX4_sign 2 (some .int), Cond.methodLink RX4 69 yX4_refused, Cond.instanceMethod yX4_refused, Cond.selects RX4 yX4_refused yX4_refused, Cond.code yX4_refused cX4_refused 2 (some .boolean), Cond.fieldLink RX4 45 "PlaneFacesModel" "refusal" "I", Cond.methodLink RX4 134 yX4_outer, Cond.instanceMethod yX4_outer, Cond.selects RX4 yX4_outer yX4_outer]
def wsX4_around_r4 : List Cond := [Cond.code yX4_outer cX4_outer 4 (some .int)]
def wsX4_around : List Cond := .code yX4_around cX4_around 2 (some .int) :: ((wsX4_around_r1 ++ (wsX4_around_r2 ++ (wsX4_around_r3 ++ wsX4_around_r4))) ++ wsX40)
def wsX4_isFace_r1 : List Cond := [Cond.fieldLink RX4 118 "PlaneFacesModel" "faces" "I", Cond.methodLink RX4 125 yX4_make, Cond.instanceMethod yX4_make, Cond.selects RX4 yX4_make yX4_make, Cond.initialized RX4, Cond.code yX4_make cX4_make 2 none, Cond.fieldLink RX4 76 "PlaneFacesModel" "isCurrent" "Z", Cond.fieldLink RX4 101 "PlaneFacesModel" "pieces" "I", Cond.fieldLink RX4 95 "PlaneFacesModel" "rounds" "I", Cond.fieldLink RX4 23 "PlaneFacesModel" "pieceOf" "[I", Cond.fieldLink RX4 26 "PlaneFacesModel" "roundOf" "[I", Cond.fieldLink RX4 7 "PlaneFacesModel" "isThere" "[Z", Cond.fieldLink RX4 20 "PlaneFacesModel" "nexts" "[I", Cond.methodLink RX4 104 yX4_nextOf, Cond.instanceMethod yX4_nextOf, Cond.selects RX4 yX4_nextOf yX4_nextOf, Cond.code yX4_nextOf cX4_nextOf 6 (some .int), Cond.fieldLink RX4 13 "PlaneFacesModel" "xs" "[I", Cond.fieldLink RX4 17 "PlaneFacesModel" "ys" "[I", Cond.methodLink RX4 80 yX4_back, Cond.static yX4_back, Cond.code yX4_back cX4_back 1 (some .int), Cond.methodLink RX4 88 yX4_leaves, Cond.instanceMethod yX4_leaves]
def wsX4_isFace_r2 : List Cond := [Cond.selects RX4 yX4_leaves yX4_leaves, Cond.code yX4_leaves cX4_leaves 4 (some .boolean), Cond.methodLink RX4 91 yX4_turned, Cond.instanceMethod yX4_turned, Cond.selects RX4 yX4_turned yX4_turned, Cond.code yX4_turned cX4_turned 5 (some .int), Cond.methodLink RX4 84 yX4_crossOf, Cond.instanceMethod yX4_crossOf, Cond.selects RX4 yX4_crossOf yX4_crossOf, Cond.code yX4_crossOf cX4_crossOf 11 (some .long), Cond.methodLink RX4 107 yX4_spreadPiece, Cond.instanceMethod yX4_spreadPiece, Cond.selects RX4 yX4_spreadPiece yX4_spreadPiece, Cond.code yX4_spreadPiece cX4_spreadPiece 7 none, Cond.methodLink RX4 111 yX4_makeRound, Cond.instanceMethod yX4_makeRound, Cond.selects RX4 yX4_makeRound yX4_makeRound, Cond.code yX4_makeRound cX4_makeRound 4 none, Cond.fieldLink RX4 29 "PlaneFacesModel" "firsts" "[I", Cond.fieldLink RX4 32 "PlaneFacesModel" "areas" "[J", Cond.methodLink RX4 115 yX4_number, Cond.instanceMethod yX4_number, Cond.selects RX4 yX4_number yX4_number, Cond.code yX4_number cX4_number 4 none]
def wsX4_isFace_r3 : List Cond := [Cond.fieldLink RX4 39 "PlaneFacesModel" "numbers" "[I", Cond.fieldLink RX4 36 "PlaneFacesModel" "faceOf" "[I", Cond.methodLink RX4 121 yX4_least, Cond.instanceMethod yX4_least, Cond.selects RX4 yX4_least yX4_least, Cond.code yX4_least cX4_least 7 (some .int), Cond.methodLink RX4 98 yX4_isWithin, Cond.instanceMethod yX4_isWithin, Cond.selects RX4 yX4_isWithin yX4_isWithin, Cond.code yX4_isWithin cX4_isWithin 9 (some .boolean), Cond.methodLink RX4 53 yX4_side, Cond.static yX4_side, Cond.code yX4_side cX4_side 6 (some .int), Cond.methodLink RX4 49 yX4_sign, Cond.static yX4_sign, Cond.code yX4_sign cX4_sign 2 (some .int)]
def wsX4_isFace : List Cond := .code yX4_isFace cX4_isFace 2 (some .boolean) :: ((wsX4_isFace_r1 ++ (wsX4_isFace_r2 ++ wsX4_isFace_r3)) ++ wsX40)
def wsX4_area_r1 : List Cond := [Cond.fieldLink RX4 95 "PlaneFacesModel" "rounds" "I", Cond.fieldLink RX4 36 "PlaneFacesModel" "faceOf" "[I", Cond.fieldLink RX4 32 "PlaneFacesModel" "areas" "[J", Cond.methodLink RX4 137 yX4_isFace, Cond.instanceMethod yX4_isFace, Cond.selects RX4 yX4_isFace yX4_isFace, Cond.initialized RX4, Cond.code yX4_isFace cX4_isFace 2 (some .boolean), Cond.fieldLink RX4 118 "PlaneFacesModel" "faces" "I", Cond.methodLink RX4 125 yX4_make, Cond.instanceMethod yX4_make, Cond.selects RX4 yX4_make yX4_make, Cond.code yX4_make cX4_make 2 none, Cond.fieldLink RX4 76 "PlaneFacesModel" "isCurrent" "Z", Cond.fieldLink RX4 101 "PlaneFacesModel" "pieces" "I", Cond.fieldLink RX4 23 "PlaneFacesModel" "pieceOf" "[I", Cond.fieldLink RX4 26 "PlaneFacesModel" "roundOf" "[I", Cond.fieldLink RX4 7 "PlaneFacesModel" "isThere" "[Z", Cond.fieldLink RX4 20 "PlaneFacesModel" "nexts" "[I", Cond.methodLink RX4 104 yX4_nextOf, Cond.instanceMethod yX4_nextOf, Cond.selects RX4 yX4_nextOf yX4_nextOf, Cond.code yX4_nextOf cX4_nextOf 6 (some .int), Cond.fieldLink RX4 13 "PlaneFacesModel" "xs" "[I"]
def wsX4_area_r2 : List Cond := [Cond.fieldLink RX4 17 "PlaneFacesModel" "ys" "[I", Cond.methodLink RX4 80 yX4_back, Cond.static yX4_back, Cond.code yX4_back cX4_back 1 (some .int), Cond.methodLink RX4 88 yX4_leaves, Cond.instanceMethod yX4_leaves, Cond.selects RX4 yX4_leaves yX4_leaves, Cond.code yX4_leaves cX4_leaves 4 (some .boolean), Cond.methodLink RX4 91 yX4_turned, Cond.instanceMethod yX4_turned, Cond.selects RX4 yX4_turned yX4_turned, Cond.code yX4_turned cX4_turned 5 (some .int), Cond.methodLink RX4 84 yX4_crossOf, Cond.instanceMethod yX4_crossOf, Cond.selects RX4 yX4_crossOf yX4_crossOf, Cond.code yX4_crossOf cX4_crossOf 11 (some .long), Cond.methodLink RX4 107 yX4_spreadPiece, Cond.instanceMethod yX4_spreadPiece, Cond.selects RX4 yX4_spreadPiece yX4_spreadPiece, Cond.code yX4_spreadPiece cX4_spreadPiece 7 none, Cond.methodLink RX4 111 yX4_makeRound, Cond.instanceMethod yX4_makeRound, Cond.selects RX4 yX4_makeRound yX4_makeRound, Cond.code yX4_makeRound cX4_makeRound 4 none]
def wsX4_area_r3 : List Cond := [Cond.fieldLink RX4 29 "PlaneFacesModel" "firsts" "[I", Cond.methodLink RX4 115 yX4_number, Cond.instanceMethod yX4_number, Cond.selects RX4 yX4_number yX4_number, Cond.code yX4_number cX4_number 4 none, Cond.fieldLink RX4 39 "PlaneFacesModel" "numbers" "[I", Cond.methodLink RX4 121 yX4_least, Cond.instanceMethod yX4_least, Cond.selects RX4 yX4_least yX4_least, Cond.code yX4_least cX4_least 7 (some .int), Cond.methodLink RX4 98 yX4_isWithin, Cond.instanceMethod yX4_isWithin, Cond.selects RX4 yX4_isWithin yX4_isWithin, Cond.code yX4_isWithin cX4_isWithin 9 (some .boolean), Cond.methodLink RX4 53 yX4_side, Cond.static yX4_side, Cond.code yX4_side cX4_side 6 (some .int), Cond.methodLink RX4 49 yX4_sign, Cond.static yX4_sign, Cond.code yX4_sign cX4_sign 2 (some .int), Cond.methodLink RX4 69 yX4_refused, Cond.instanceMethod yX4_refused, Cond.selects RX4 yX4_refused yX4_refused, Cond.code yX4_refused cX4_refused 2 (some .boolean)]
def wsX4_area_r4 : List Cond := [Cond.fieldLink RX4 45 "PlaneFacesModel" "refusal" "I"]
def wsX4_area : List Cond := .code yX4_area cX4_area 5 (some .int) :: ((wsX4_area_r1 ++ (wsX4_area_r2 ++ (wsX4_area_r3 ++ wsX4_area_r4))) ++ wsX40)
def wsX4_border_r1 : List Cond := [Cond.fieldLink RX4 95 "PlaneFacesModel" "rounds" "I", Cond.fieldLink RX4 36 "PlaneFacesModel" "faceOf" "[I", Cond.fieldLink RX4 32 "PlaneFacesModel" "areas" "[J", Cond.fieldLink RX4 7 "PlaneFacesModel" "isThere" "[Z", Cond.methodLink RX4 137 yX4_isFace, Cond.instanceMethod yX4_isFace, Cond.selects RX4 yX4_isFace yX4_isFace, Cond.initialized RX4, Cond.code yX4_isFace cX4_isFace 2 (some .boolean), Cond.fieldLink RX4 118 "PlaneFacesModel" "faces" "I", Cond.methodLink RX4 125 yX4_make, Cond.instanceMethod yX4_make, Cond.selects RX4 yX4_make yX4_make, Cond.code yX4_make cX4_make 2 none, Cond.fieldLink RX4 76 "PlaneFacesModel" "isCurrent" "Z", Cond.fieldLink RX4 101 "PlaneFacesModel" "pieces" "I", Cond.fieldLink RX4 23 "PlaneFacesModel" "pieceOf" "[I", Cond.fieldLink RX4 26 "PlaneFacesModel" "roundOf" "[I", Cond.fieldLink RX4 20 "PlaneFacesModel" "nexts" "[I", Cond.methodLink RX4 104 yX4_nextOf, Cond.instanceMethod yX4_nextOf, Cond.selects RX4 yX4_nextOf yX4_nextOf, Cond.code yX4_nextOf cX4_nextOf 6 (some .int), Cond.fieldLink RX4 13 "PlaneFacesModel" "xs" "[I"]
def wsX4_border_r2 : List Cond := [Cond.fieldLink RX4 17 "PlaneFacesModel" "ys" "[I", Cond.methodLink RX4 80 yX4_back, Cond.static yX4_back, Cond.code yX4_back cX4_back 1 (some .int), Cond.methodLink RX4 88 yX4_leaves, Cond.instanceMethod yX4_leaves, Cond.selects RX4 yX4_leaves yX4_leaves, Cond.code yX4_leaves cX4_leaves 4 (some .boolean), Cond.methodLink RX4 91 yX4_turned, Cond.instanceMethod yX4_turned, Cond.selects RX4 yX4_turned yX4_turned, Cond.code yX4_turned cX4_turned 5 (some .int), Cond.methodLink RX4 84 yX4_crossOf, Cond.instanceMethod yX4_crossOf, Cond.selects RX4 yX4_crossOf yX4_crossOf, Cond.code yX4_crossOf cX4_crossOf 11 (some .long), Cond.methodLink RX4 107 yX4_spreadPiece, Cond.instanceMethod yX4_spreadPiece, Cond.selects RX4 yX4_spreadPiece yX4_spreadPiece, Cond.code yX4_spreadPiece cX4_spreadPiece 7 none, Cond.methodLink RX4 111 yX4_makeRound, Cond.instanceMethod yX4_makeRound, Cond.selects RX4 yX4_makeRound yX4_makeRound, Cond.code yX4_makeRound cX4_makeRound 4 none]
def wsX4_border_r3 : List Cond := [Cond.fieldLink RX4 29 "PlaneFacesModel" "firsts" "[I", Cond.methodLink RX4 115 yX4_number, Cond.instanceMethod yX4_number, Cond.selects RX4 yX4_number yX4_number, Cond.code yX4_number cX4_number 4 none, Cond.fieldLink RX4 39 "PlaneFacesModel" "numbers" "[I", Cond.methodLink RX4 121 yX4_least, Cond.instanceMethod yX4_least, Cond.selects RX4 yX4_least yX4_least, Cond.code yX4_least cX4_least 7 (some .int), Cond.methodLink RX4 98 yX4_isWithin, Cond.instanceMethod yX4_isWithin, Cond.selects RX4 yX4_isWithin yX4_isWithin, Cond.code yX4_isWithin cX4_isWithin 9 (some .boolean), Cond.methodLink RX4 53 yX4_side, Cond.static yX4_side, Cond.code yX4_side cX4_side 6 (some .int), Cond.methodLink RX4 49 yX4_sign, Cond.static yX4_sign, Cond.code yX4_sign cX4_sign 2 (some .int), Cond.methodLink RX4 69 yX4_refused, Cond.instanceMethod yX4_refused, Cond.selects RX4 yX4_refused yX4_refused, Cond.code yX4_refused cX4_refused 2 (some .boolean)]
def wsX4_border_r4 : List Cond := [Cond.fieldLink RX4 45 "PlaneFacesModel" "refusal" "I", Cond.methodLink RX4 128 yX4_left, Cond.instanceMethod yX4_left, Cond.selects RX4 yX4_left yX4_left, Cond.code yX4_left cX4_left 2 (some .int)]
def wsX4_border : List Cond := .code yX4_border cX4_border 6 (some .int) :: ((wsX4_border_r1 ++ (wsX4_border_r2 ++ (wsX4_border_r3 ++ wsX4_border_r4))) ++ wsX40)
def wsX4_locate_r1 : List Cond := [Cond.fieldLink RX4 7 "PlaneFacesModel" "isThere" "[Z", Cond.fieldLink RX4 13 "PlaneFacesModel" "xs" "[I", Cond.fieldLink RX4 17 "PlaneFacesModel" "ys" "[I", Cond.fieldLink RX4 36 "PlaneFacesModel" "faceOf" "[I", Cond.methodLink RX4 65 yX4_isIn, Cond.static yX4_isIn, Cond.initialized RX4, Cond.code yX4_isIn cX4_isIn 1 (some .boolean), Cond.methodLink RX4 69 yX4_refused, Cond.instanceMethod yX4_refused, Cond.selects RX4 yX4_refused yX4_refused, Cond.code yX4_refused cX4_refused 2 (some .boolean), Cond.fieldLink RX4 45 "PlaneFacesModel" "refusal" "I", Cond.methodLink RX4 125 yX4_make, Cond.instanceMethod yX4_make, Cond.selects RX4 yX4_make yX4_make, Cond.code yX4_make cX4_make 2 none, Cond.fieldLink RX4 76 "PlaneFacesModel" "isCurrent" "Z", Cond.fieldLink RX4 101 "PlaneFacesModel" "pieces" "I", Cond.fieldLink RX4 95 "PlaneFacesModel" "rounds" "I", Cond.fieldLink RX4 23 "PlaneFacesModel" "pieceOf" "[I", Cond.fieldLink RX4 26 "PlaneFacesModel" "roundOf" "[I", Cond.fieldLink RX4 20 "PlaneFacesModel" "nexts" "[I", Cond.methodLink RX4 104 yX4_nextOf]
def wsX4_locate_r2 : List Cond := [Cond.instanceMethod yX4_nextOf, Cond.selects RX4 yX4_nextOf yX4_nextOf, Cond.code yX4_nextOf cX4_nextOf 6 (some .int), Cond.methodLink RX4 80 yX4_back, Cond.static yX4_back, Cond.code yX4_back cX4_back 1 (some .int), Cond.methodLink RX4 88 yX4_leaves, Cond.instanceMethod yX4_leaves, Cond.selects RX4 yX4_leaves yX4_leaves, Cond.code yX4_leaves cX4_leaves 4 (some .boolean), Cond.methodLink RX4 91 yX4_turned, Cond.instanceMethod yX4_turned, Cond.selects RX4 yX4_turned yX4_turned, Cond.code yX4_turned cX4_turned 5 (some .int), Cond.methodLink RX4 84 yX4_crossOf, Cond.instanceMethod yX4_crossOf, Cond.selects RX4 yX4_crossOf yX4_crossOf, Cond.code yX4_crossOf cX4_crossOf 11 (some .long), Cond.methodLink RX4 107 yX4_spreadPiece, Cond.instanceMethod yX4_spreadPiece, Cond.selects RX4 yX4_spreadPiece yX4_spreadPiece, Cond.code yX4_spreadPiece cX4_spreadPiece 7 none, Cond.methodLink RX4 111 yX4_makeRound, Cond.instanceMethod yX4_makeRound]
def wsX4_locate_r3 : List Cond := [Cond.selects RX4 yX4_makeRound yX4_makeRound, Cond.code yX4_makeRound cX4_makeRound 4 none, Cond.fieldLink RX4 29 "PlaneFacesModel" "firsts" "[I", Cond.fieldLink RX4 32 "PlaneFacesModel" "areas" "[J", Cond.methodLink RX4 115 yX4_number, Cond.instanceMethod yX4_number, Cond.selects RX4 yX4_number yX4_number, Cond.code yX4_number cX4_number 4 none, Cond.fieldLink RX4 118 "PlaneFacesModel" "faces" "I", Cond.fieldLink RX4 39 "PlaneFacesModel" "numbers" "[I", Cond.methodLink RX4 121 yX4_least, Cond.instanceMethod yX4_least, Cond.selects RX4 yX4_least yX4_least, Cond.code yX4_least cX4_least 7 (some .int), Cond.methodLink RX4 98 yX4_isWithin, Cond.instanceMethod yX4_isWithin, Cond.selects RX4 yX4_isWithin yX4_isWithin, Cond.code yX4_isWithin cX4_isWithin 9 (some .boolean), Cond.methodLink RX4 53 yX4_side, Cond.static yX4_side, Cond.code yX4_side cX4_side 6 (some .int), Cond.methodLink RX4 49 yX4_sign, Cond.static yX4_sign, Cond.code yX4_sign cX4_sign 2 (some .int)]
def wsX4_locate_r4 : List Cond := [Cond.methodLink RX4 61 yX4_isOn, Cond.static yX4_isOn, Cond.code yX4_isOn cX4_isOn 9 (some .boolean)]
def wsX4_locate : List Cond := .code yX4_locate cX4_locate 4 (some .int) :: ((wsX4_locate_r1 ++ (wsX4_locate_r2 ++ (wsX4_locate_r3 ++ wsX4_locate_r4))) ++ wsX40)
def wsX4_height : List Cond := .code yX4_height cX4_height 8 (some .long) :: ([.fieldLink RX4 13 "PlaneFacesModel" "xs" "[I", .fieldLink RX4 17 "PlaneFacesModel" "ys" "[I", .constantLong RX4 140 (-100000), .methodLink RX4 80 yX4_back, .static yX4_back, .initialized RX4, .code yX4_back cX4_back 1 (some .int)] ++ wsX40)
def wsX4_width : List Cond := .code yX4_width cX4_width 3 (some .long) :: ([.fieldLink RX4 13 "PlaneFacesModel" "xs" "[I"] ++ wsX40)
def wsX4_isMet : List Cond := .code yX4_isMet cX4_isMet 7 (some .boolean) :: ([.fieldLink RX4 13 "PlaneFacesModel" "xs" "[I", .methodLink RX4 142 yX4_height, .instanceMethod yX4_height, .selects RX4 yX4_height yX4_height, .initialized RX4, .code yX4_height cX4_height 8 (some .long), .fieldLink RX4 17 "PlaneFacesModel" "ys" "[I", .constantLong RX4 140 (-100000), .methodLink RX4 80 yX4_back, .static yX4_back, .code yX4_back cX4_back 1 (some .int), .methodLink RX4 146 yX4_width, .instanceMethod yX4_width, .selects RX4 yX4_width yX4_width, .code yX4_width cX4_width 3 (some .long)] ++ wsX40)
def wsX4_above_r1 : List Cond := [Cond.fieldLink RX4 7 "PlaneFacesModel" "isThere" "[Z", Cond.methodLink RX4 65 yX4_isIn, Cond.static yX4_isIn, Cond.initialized RX4, Cond.code yX4_isIn cX4_isIn 1 (some .boolean), Cond.methodLink RX4 69 yX4_refused, Cond.instanceMethod yX4_refused, Cond.selects RX4 yX4_refused yX4_refused, Cond.code yX4_refused cX4_refused 2 (some .boolean), Cond.fieldLink RX4 45 "PlaneFacesModel" "refusal" "I", Cond.methodLink RX4 150 yX4_isMet, Cond.instanceMethod yX4_isMet, Cond.selects RX4 yX4_isMet yX4_isMet, Cond.code yX4_isMet cX4_isMet 7 (some .boolean), Cond.fieldLink RX4 13 "PlaneFacesModel" "xs" "[I", Cond.methodLink RX4 142 yX4_height, Cond.instanceMethod yX4_height, Cond.selects RX4 yX4_height yX4_height, Cond.code yX4_height cX4_height 8 (some .long), Cond.fieldLink RX4 17 "PlaneFacesModel" "ys" "[I", Cond.constantLong RX4 140 (-100000), Cond.methodLink RX4 80 yX4_back, Cond.static yX4_back, Cond.code yX4_back cX4_back 1 (some .int)]
def wsX4_above_r2 : List Cond := [Cond.methodLink RX4 146 yX4_width, Cond.instanceMethod yX4_width, Cond.selects RX4 yX4_width yX4_width, Cond.code yX4_width cX4_width 3 (some .long)]
def wsX4_above : List Cond := .code yX4_above cX4_above 6 (some .int) :: ((wsX4_above_r1 ++ wsX4_above_r2) ++ wsX40)
def wsX4_across_r1 : List Cond := [Cond.fieldLink RX4 118 "PlaneFacesModel" "faces" "I", Cond.fieldLink RX4 42 "PlaneFacesModel" "steps" "[I", Cond.fieldLink RX4 7 "PlaneFacesModel" "isThere" "[Z", Cond.methodLink RX4 137 yX4_isFace, Cond.instanceMethod yX4_isFace, Cond.selects RX4 yX4_isFace yX4_isFace, Cond.initialized RX4, Cond.code yX4_isFace cX4_isFace 2 (some .boolean), Cond.methodLink RX4 125 yX4_make, Cond.instanceMethod yX4_make, Cond.selects RX4 yX4_make yX4_make, Cond.code yX4_make cX4_make 2 none, Cond.fieldLink RX4 76 "PlaneFacesModel" "isCurrent" "Z", Cond.fieldLink RX4 101 "PlaneFacesModel" "pieces" "I", Cond.fieldLink RX4 95 "PlaneFacesModel" "rounds" "I", Cond.fieldLink RX4 23 "PlaneFacesModel" "pieceOf" "[I", Cond.fieldLink RX4 26 "PlaneFacesModel" "roundOf" "[I", Cond.fieldLink RX4 20 "PlaneFacesModel" "nexts" "[I", Cond.methodLink RX4 104 yX4_nextOf, Cond.instanceMethod yX4_nextOf, Cond.selects RX4 yX4_nextOf yX4_nextOf, Cond.code yX4_nextOf cX4_nextOf 6 (some .int), Cond.fieldLink RX4 13 "PlaneFacesModel" "xs" "[I", Cond.fieldLink RX4 17 "PlaneFacesModel" "ys" "[I"]
def wsX4_across_r2 : List Cond := [Cond.methodLink RX4 80 yX4_back, Cond.static yX4_back, Cond.code yX4_back cX4_back 1 (some .int), Cond.methodLink RX4 88 yX4_leaves, Cond.instanceMethod yX4_leaves, Cond.selects RX4 yX4_leaves yX4_leaves, Cond.code yX4_leaves cX4_leaves 4 (some .boolean), Cond.methodLink RX4 91 yX4_turned, Cond.instanceMethod yX4_turned, Cond.selects RX4 yX4_turned yX4_turned, Cond.code yX4_turned cX4_turned 5 (some .int), Cond.methodLink RX4 84 yX4_crossOf, Cond.instanceMethod yX4_crossOf, Cond.selects RX4 yX4_crossOf yX4_crossOf, Cond.code yX4_crossOf cX4_crossOf 11 (some .long), Cond.methodLink RX4 107 yX4_spreadPiece, Cond.instanceMethod yX4_spreadPiece, Cond.selects RX4 yX4_spreadPiece yX4_spreadPiece, Cond.code yX4_spreadPiece cX4_spreadPiece 7 none, Cond.methodLink RX4 111 yX4_makeRound, Cond.instanceMethod yX4_makeRound, Cond.selects RX4 yX4_makeRound yX4_makeRound, Cond.code yX4_makeRound cX4_makeRound 4 none, Cond.fieldLink RX4 29 "PlaneFacesModel" "firsts" "[I"]
def wsX4_across_r3 : List Cond := [Cond.fieldLink RX4 32 "PlaneFacesModel" "areas" "[J", Cond.methodLink RX4 115 yX4_number, Cond.instanceMethod yX4_number, Cond.selects RX4 yX4_number yX4_number, Cond.code yX4_number cX4_number 4 none, Cond.fieldLink RX4 39 "PlaneFacesModel" "numbers" "[I", Cond.fieldLink RX4 36 "PlaneFacesModel" "faceOf" "[I", Cond.methodLink RX4 121 yX4_least, Cond.instanceMethod yX4_least, Cond.selects RX4 yX4_least yX4_least, Cond.code yX4_least cX4_least 7 (some .int), Cond.methodLink RX4 98 yX4_isWithin, Cond.instanceMethod yX4_isWithin, Cond.selects RX4 yX4_isWithin yX4_isWithin, Cond.code yX4_isWithin cX4_isWithin 9 (some .boolean), Cond.methodLink RX4 53 yX4_side, Cond.static yX4_side, Cond.code yX4_side cX4_side 6 (some .int), Cond.methodLink RX4 49 yX4_sign, Cond.static yX4_sign, Cond.code yX4_sign cX4_sign 2 (some .int), Cond.methodLink RX4 69 yX4_refused, Cond.instanceMethod yX4_refused, Cond.selects RX4 yX4_refused yX4_refused]
def wsX4_across_r4 : List Cond := [Cond.code yX4_refused cX4_refused 2 (some .boolean), Cond.fieldLink RX4 45 "PlaneFacesModel" "refusal" "I", Cond.methodLink RX4 128 yX4_left, Cond.instanceMethod yX4_left, Cond.selects RX4 yX4_left yX4_left, Cond.code yX4_left cX4_left 2 (some .int)]
def wsX4_across : List Cond := .code yX4_across cX4_across 5 (some .int) :: ((wsX4_across_r1 ++ (wsX4_across_r2 ++ (wsX4_across_r3 ++ wsX4_across_r4))) ++ wsX40)
def wsJ9_abs_0f7a4 : List Cond := .code yJ9_abs_0f7a4 cJ9_abs_0f7a4 1 (some .int) :: ([])
def wsJ9_max_7cf53 : List Cond := .code yJ9_max_7cf53 cJ9_max_7cf53 2 (some .int) :: ([])
def wsJ9_min_7cf53 : List Cond := .code yJ9_min_7cf53 cJ9_min_7cf53 2 (some .int) :: ([])
def wsL_add_r1 : List Cond := [Cond.classLink RL 13 "java/lang/IllegalArgumentException", Cond.classLink RL 15 "java/lang/IllegalStateException", Cond.methodLink RL 7 yX3_add, Cond.instanceMethod yX3_add, Cond.selects RX3 yX3_add yX3_add, Cond.initialized RX3, Cond.code yX3_add cX3_add 6 (some .int), Cond.classLink RX3 36 "java/lang/IllegalArgumentException", Cond.initialized "java/lang/IllegalArgumentException", Cond.classLink RX3 49 "java/lang/IllegalStateException", Cond.initialized "java/lang/IllegalStateException", Cond.fieldLink RX3 27 "PlaneFaces" "segments" "LPlaneFaces$Segments;", Cond.fieldLink RX3 28 "PlaneFaces" "stale" "Z", Cond.methodLink RX3 32 yX3_requirePlace, Cond.static yX3_requirePlace, Cond.code yX3_requirePlace cX3_requirePlace 2 none, Cond.methodLink RX3 43 yX2_leastFree, Cond.instanceMethod yX2_leastFree, Cond.selects RX2 yX2_leastFree yX2_leastFree, Cond.initialized RX2, Cond.code yX2_leastFree cX2_leastFree 2 (some .int), Cond.fieldLink RX2 18 "PlaneFaces$Segments" "used" "[Z", Cond.methodLink RX3 54 yX2_draw, Cond.instanceMethod yX2_draw]
def wsL_add_r2 : List Cond := [Cond.selects RX2 yX2_draw yX2_draw, Cond.code yX2_draw cX2_draw 6 none, Cond.fieldLink RX2 9 "PlaneFaces$Segments" "x" "[I", Cond.fieldLink RX2 15 "PlaneFaces$Segments" "y" "[I", Cond.methodLink RX3 58 yX2_clashes, Cond.instanceMethod yX2_clashes, Cond.selects RX2 yX2_clashes yX2_clashes, Cond.code yX2_clashes cX2_clashes 3 (some .boolean), Cond.methodLink RX2 26 yX2_touches, Cond.instanceMethod yX2_touches, Cond.selects RX2 yX2_touches yX2_touches, Cond.code yX2_touches cX2_touches 3 (some .boolean), Cond.methodLink RX2 36 yX2_holds, Cond.instanceMethod yX2_holds, Cond.selects RX2 yX2_holds yX2_holds, Cond.code yX2_holds cX2_holds 8 (some .boolean), Cond.methodLink RX2 46 yX2_side, Cond.instanceMethod yX2_side, Cond.selects RX2 yX2_side yX2_side, Cond.code yX2_side cX2_side 8 (some .long), Cond.methodLink RX2 30 yX2_sameEnds, Cond.instanceMethod yX2_sameEnds, Cond.selects RX2 yX2_sameEnds yX2_sameEnds, Cond.code yX2_sameEnds cX2_sameEnds 3 (some .boolean)]
def wsL_add_r3 : List Cond := [Cond.methodLink RX2 40 yX2_sameBegin, Cond.instanceMethod yX2_sameBegin, Cond.selects RX2 yX2_sameBegin yX2_sameBegin, Cond.code yX2_sameBegin cX2_sameBegin 3 (some .boolean), Cond.methodLink RX2 33 yX2_crosses, Cond.instanceMethod yX2_crosses, Cond.selects RX2 yX2_crosses yX2_crosses, Cond.code yX2_crosses cX2_crosses 3 (some .boolean), Cond.methodLink RX2 43 yX2_parts, Cond.instanceMethod yX2_parts, Cond.selects RX2 yX2_parts yX2_parts, Cond.code yX2_parts cX2_parts 7 (some .boolean), Cond.methodLink RX3 62 yX2_keep, Cond.instanceMethod yX2_keep, Cond.selects RX2 yX2_keep yX2_keep, Cond.code yX2_keep cX2_keep 2 none, Cond.fieldLink RX2 22 "PlaneFaces$Segments" "size" "I"]
def wsL_add : List Cond := .codeWith yL_add cL_add 7 (some .int) [(0, 14, 17, 13), (0, 14, 21, 15)] :: ((wsL_add_r1 ++ (wsL_add_r2 ++ wsL_add_r3)) ++ wsX30 ++ wsX20 ++ (vx_atS RX3 40 "java/lang/IllegalArgumentException" ["java/lang/RuntimeException", "java/lang/Exception"]).filter goodWord ++ (vx_atS RX3 53 "java/lang/IllegalStateException" ["java/lang/RuntimeException", "java/lang/Exception"]).filter goodWord)
def wsL_begins : List Cond := .codeWith yL_begins cL_begins 5 (some .int) [(0, 10, 13, 21)] :: ([.classLink RL 21 "java/lang/IndexOutOfBoundsException", .methodLink RL 17 yX3_begins, .instanceMethod yX3_begins, .selects RX3 yX3_begins yX3_begins, .initialized RX3, .code yX3_begins cX3_begins 3 (some .int), .fieldLink RX3 27 "PlaneFaces" "segments" "LPlaneFaces$Segments;", .fieldLink RX3 96 "PlaneFaces$Segments" "y" "[I", .fieldLink RX3 100 "PlaneFaces$Segments" "x" "[I", .methodLink RX3 93 yX3_requireHalf, .instanceMethod yX3_requireHalf, .selects RX3 yX3_requireHalf yX3_requireHalf, .code yX3_requireHalf cX3_requireHalf 2 none, .classLink RX3 112 "java/lang/IndexOutOfBoundsException", .initialized "java/lang/IndexOutOfBoundsException", .methodLink RX3 66 yX2_has, .instanceMethod yX2_has, .selects RX2 yX2_has yX2_has, .initialized RX2, .code yX2_has cX2_has 2 (some .boolean), .fieldLink RX2 18 "PlaneFaces$Segments" "used" "[Z"] ++ wsX30 ++ wsX20 ++ (vx_atS RX3 116 "java/lang/IndexOutOfBoundsException" ["java/lang/RuntimeException", "java/lang/Exception"]).filter goodWord)
def wsL_next_r1 : List Cond := [Cond.classLink RL 21 "java/lang/IndexOutOfBoundsException", Cond.methodLink RL 23 yX3_next, Cond.instanceMethod yX3_next, Cond.selects RX3 yX3_next yX3_next, Cond.initialized RX3, Cond.code yX3_next cX3_next 2 (some .int), Cond.fieldLink RX3 20 "PlaneFaces" "rounds" "LPlaneFaces$Rounds;", Cond.fieldLink RX3 103 "PlaneFaces$Rounds" "following" "[I", Cond.methodLink RX3 93 yX3_requireHalf, Cond.instanceMethod yX3_requireHalf, Cond.selects RX3 yX3_requireHalf yX3_requireHalf, Cond.code yX3_requireHalf cX3_requireHalf 2 none, Cond.classLink RX3 112 "java/lang/IndexOutOfBoundsException", Cond.initialized "java/lang/IndexOutOfBoundsException", Cond.fieldLink RX3 27 "PlaneFaces" "segments" "LPlaneFaces$Segments;", Cond.methodLink RX3 66 yX2_has, Cond.instanceMethod yX2_has, Cond.selects RX2 yX2_has yX2_has, Cond.initialized RX2, Cond.code yX2_has cX2_has 2 (some .boolean), Cond.fieldLink RX2 18 "PlaneFaces$Segments" "used" "[Z", Cond.methodLink RX3 79 yX3_refresh, Cond.instanceMethod yX3_refresh, Cond.selects RX3 yX3_refresh yX3_refresh]
def wsL_next_r2 : List Cond := [Cond.code yX3_refresh cX3_refresh 1 none, Cond.fieldLink RX3 28 "PlaneFaces" "stale" "Z", Cond.fieldLink RX3 12 "PlaneFaces" "faces" "LPlaneFaces$Faces;", Cond.methodLink RX3 160 yX1_trace, Cond.instanceMethod yX1_trace, Cond.selects RX1 yX1_trace yX1_trace, Cond.initialized RX1, Cond.code yX1_trace cX1_trace 2 none, Cond.fieldLink RX1 22 "PlaneFaces$Rounds" "following" "[I", Cond.fieldLink RX1 12 "PlaneFaces$Rounds" "segments" "LPlaneFaces$Segments;", Cond.fieldLink RX1 54 "PlaneFaces$Segments" "used" "[Z", Cond.methodLink RX1 51 yX1_findCorners, Cond.instanceMethod yX1_findCorners, Cond.selects RX1 yX1_findCorners yX1_findCorners, Cond.code yX1_findCorners cX1_findCorners 2 none, Cond.fieldLink RX1 18 "PlaneFaces$Rounds" "corner" "[I", Cond.fieldLink RX1 71 "PlaneFaces$Segments" "x" "[I", Cond.fieldLink RX1 74 "PlaneFaces$Segments" "y" "[I", Cond.methodLink RX1 77 yX2_leastHalfAt, Cond.instanceMethod yX2_leastHalfAt, Cond.selects RX2 yX2_leastHalfAt yX2_leastHalfAt, Cond.code yX2_leastHalfAt cX2_leastHalfAt 4 (some .int), Cond.fieldLink RX2 9 "PlaneFaces$Segments" "x" "[I", Cond.fieldLink RX2 15 "PlaneFaces$Segments" "y" "[I"]
def wsL_next_r3 : List Cond := [Cond.methodLink RX1 58 yX1_firstClockwise, Cond.instanceMethod yX1_firstClockwise, Cond.selects RX1 yX1_firstClockwise yX1_firstClockwise, Cond.code yX1_firstClockwise cX1_firstClockwise 5 (some .int), Cond.methodLink RX1 81 yX2_sooner, Cond.instanceMethod yX2_sooner, Cond.selects RX2 yX2_sooner yX2_sooner, Cond.code yX2_sooner cX2_sooner 6 (some .boolean), Cond.methodLink RX2 50 yX2_turn, Cond.instanceMethod yX2_turn, Cond.selects RX2 yX2_turn yX2_turn, Cond.code yX2_turn cX2_turn 7 (some .long), Cond.methodLink RX2 54 yX2_signOf, Cond.static yX2_signOf, Cond.code yX2_signOf cX2_signOf 2 (some .int), Cond.methodLink RX1 62 yX1_joinPieces, Cond.instanceMethod yX1_joinPieces, Cond.selects RX1 yX1_joinPieces yX1_joinPieces, Cond.code yX1_joinPieces cX1_joinPieces 2 none, Cond.fieldLink RX1 25 "PlaneFaces$Rounds" "root" "[I", Cond.methodLink RX1 85 yX1_joinRoots, Cond.instanceMethod yX1_joinRoots, Cond.selects RX1 yX1_joinRoots yX1_joinRoots, Cond.code yX1_joinRoots cX1_joinRoots 4 none]
def wsL_next_r4 : List Cond := [Cond.methodLink RX1 89 Lib.Math.max.name, Cond.static Lib.Math.max.name, Cond.initialized "java/lang/Math", Cond.code Lib.Math.max.name Lib.Math.max.code 2 (some .int), Cond.methodLink RX1 94 Lib.Math.min.name, Cond.static Lib.Math.min.name, Cond.code Lib.Math.min.name Lib.Math.min.code 2 (some .int), Cond.methodLink RX1 65 yX1_numberPieces, Cond.instanceMethod yX1_numberPieces, Cond.selects RX1 yX1_numberPieces yX1_numberPieces, Cond.code yX1_numberPieces cX1_numberPieces 2 none, Cond.fieldLink RX1 31 "PlaneFaces$Rounds" "pieces" "I", Cond.fieldLink RX1 28 "PlaneFaces$Rounds" "pieceOf" "[I", Cond.methodLink RX1 68 yX1_walkRounds, Cond.instanceMethod yX1_walkRounds, Cond.selects RX1 yX1_walkRounds yX1_walkRounds, Cond.code yX1_walkRounds cX1_walkRounds 2 none, Cond.fieldLink RX1 35 "PlaneFaces$Rounds" "roundOf" "[I", Cond.fieldLink RX1 48 "PlaneFaces$Rounds" "size" "I", Cond.methodLink RX1 97 yJ7_fill_53178, Cond.static yJ7_fill_53178, Cond.initialized RJ7, Cond.code yJ7_fill_53178 cJ7_fill_53178 4 none, Cond.methodLink RX1 103 yX1_walk]
def wsL_next_r5 : List Cond := [Cond.instanceMethod yX1_walk, Cond.selects RX1 yX1_walk yX1_walk, Cond.code yX1_walk cX1_walk 4 none, Cond.fieldLink RX1 38 "PlaneFaces$Rounds" "start" "[I", Cond.fieldLink RX1 41 "PlaneFaces$Rounds" "twice" "[J", Cond.methodLink RX1 107 yX2_sweep, Cond.instanceMethod yX2_sweep, Cond.selects RX2 yX2_sweep yX2_sweep, Cond.code yX2_sweep cX2_sweep 2 (some .long), Cond.methodLink RX3 163 yX0_settle, Cond.instanceMethod yX0_settle, Cond.selects RX0 yX0_settle yX0_settle, Cond.initialized RX0, Cond.code yX0_settle cX0_settle 2 none, Cond.fieldLink RX0 12 "PlaneFaces$Faces" "rounds" "LPlaneFaces$Rounds;", Cond.fieldLink RX0 49 "PlaneFaces$Rounds" "size" "I", Cond.fieldLink RX0 23 "PlaneFaces$Faces" "home" "[I", Cond.fieldLink RX0 33 "PlaneFaces$Faces" "outside" "[I", Cond.fieldLink RX0 30 "PlaneFaces$Faces" "faceOf" "[I", Cond.fieldLink RX0 54 "PlaneFaces$Rounds" "start" "[I", Cond.methodLink RX0 43 yX0_findHomes, Cond.instanceMethod yX0_findHomes, Cond.selects RX0 yX0_findHomes yX0_findHomes, Cond.code yX0_findHomes cX0_findHomes 3 none]
def wsL_next_r6 : List Cond := [Cond.fieldLink RX0 57 "PlaneFaces$Rounds" "twice" "[J", Cond.fieldLink RX0 22 "PlaneFaces$Faces" "segments" "LPlaneFaces$Segments;", Cond.fieldLink RX0 61 "PlaneFaces$Segments" "x" "[I", Cond.fieldLink RX0 66 "PlaneFaces$Segments" "y" "[I", Cond.methodLink RX0 50 yX1_pieceOfRound, Cond.instanceMethod yX1_pieceOfRound, Cond.selects RX1 yX1_pieceOfRound yX1_pieceOfRound, Cond.code yX1_pieceOfRound cX1_pieceOfRound 2 (some .int), Cond.methodLink RX0 69 yX1_enclosing, Cond.instanceMethod yX1_enclosing, Cond.selects RX1 yX1_enclosing yX1_enclosing, Cond.code yX1_enclosing cX1_enclosing 7 (some .int), Cond.fieldLink RX1 45 "PlaneFaces$Rounds" "odd" "[I", Cond.methodLink RX1 111 yX1_markOddRounds, Cond.instanceMethod yX1_markOddRounds, Cond.selects RX1 yX1_markOddRounds yX1_markOddRounds, Cond.code yX1_markOddRounds cX1_markOddRounds 4 none, Cond.methodLink RX1 117 yX2_roofs, Cond.instanceMethod yX2_roofs, Cond.selects RX2 yX2_roofs yX2_roofs, Cond.code yX2_roofs cX2_roofs 5 (some .boolean), Cond.methodLink RX2 58 yX2_rightward, Cond.instanceMethod yX2_rightward, Cond.selects RX2 yX2_rightward yX2_rightward]
def wsL_next_r7 : List Cond := [Cond.code yX2_rightward cX2_rightward 2 (some .int), Cond.methodLink RX2 46 yX2_side, Cond.instanceMethod yX2_side, Cond.selects RX2 yX2_side yX2_side, Cond.code yX2_side cX2_side 8 (some .long), Cond.methodLink RX1 114 yX1_pieceOfRound, Cond.methodLink RX0 46 yX0_numberFaces, Cond.instanceMethod yX0_numberFaces, Cond.selects RX0 yX0_numberFaces yX0_numberFaces, Cond.code yX0_numberFaces cX0_numberFaces 3 none, Cond.fieldLink RX0 27 "PlaneFaces$Faces" "number" "[I", Cond.fieldLink RX0 39 "PlaneFaces$Faces" "size" "I", Cond.fieldLink RX0 79 "PlaneFaces$Segments" "used" "[Z", Cond.fieldLink RX0 83 "PlaneFaces$Rounds" "roundOf" "[I", Cond.methodLink RX0 73 yJ7_fill_53178, Cond.methodLink RX0 86 yX0_faceWithin, Cond.instanceMethod yX0_faceWithin, Cond.selects RX0 yX0_faceWithin yX0_faceWithin, Cond.code yX0_faceWithin cX0_faceWithin 2 (some .int)]
def wsL_next : List Cond := .codeWith yL_next cL_next 4 (some .int) [(0, 9, 12, 21)] :: ((wsL_next_r1 ++ (wsL_next_r2 ++ (wsL_next_r3 ++ (wsL_next_r4 ++ (wsL_next_r5 ++ (wsL_next_r6 ++ wsL_next_r7)))))) ++ wsX30 ++ wsX10 ++ wsX20 ++ wsX00 ++ (vx_atS RX3 116 "java/lang/IndexOutOfBoundsException" ["java/lang/RuntimeException", "java/lang/Exception"]).filter goodWord)
def wsL_face_r1 : List Cond := [Cond.classLink RL 21 "java/lang/IndexOutOfBoundsException", Cond.methodLink RL 27 yX3_face, Cond.instanceMethod yX3_face, Cond.selects RX3 yX3_face yX3_face, Cond.initialized RX3, Cond.code yX3_face cX3_face 2 (some .int), Cond.fieldLink RX3 12 "PlaneFaces" "faces" "LPlaneFaces$Faces;", Cond.fieldLink RX3 106 "PlaneFaces$Faces" "faceOf" "[I", Cond.methodLink RX3 93 yX3_requireHalf, Cond.instanceMethod yX3_requireHalf, Cond.selects RX3 yX3_requireHalf yX3_requireHalf, Cond.code yX3_requireHalf cX3_requireHalf 2 none, Cond.classLink RX3 112 "java/lang/IndexOutOfBoundsException", Cond.initialized "java/lang/IndexOutOfBoundsException", Cond.fieldLink RX3 27 "PlaneFaces" "segments" "LPlaneFaces$Segments;", Cond.methodLink RX3 66 yX2_has, Cond.instanceMethod yX2_has, Cond.selects RX2 yX2_has yX2_has, Cond.initialized RX2, Cond.code yX2_has cX2_has 2 (some .boolean), Cond.fieldLink RX2 18 "PlaneFaces$Segments" "used" "[Z", Cond.methodLink RX3 79 yX3_refresh, Cond.instanceMethod yX3_refresh, Cond.selects RX3 yX3_refresh yX3_refresh]
def wsL_face_r2 : List Cond := [Cond.code yX3_refresh cX3_refresh 1 none, Cond.fieldLink RX3 28 "PlaneFaces" "stale" "Z", Cond.fieldLink RX3 20 "PlaneFaces" "rounds" "LPlaneFaces$Rounds;", Cond.methodLink RX3 160 yX1_trace, Cond.instanceMethod yX1_trace, Cond.selects RX1 yX1_trace yX1_trace, Cond.initialized RX1, Cond.code yX1_trace cX1_trace 2 none, Cond.fieldLink RX1 22 "PlaneFaces$Rounds" "following" "[I", Cond.fieldLink RX1 12 "PlaneFaces$Rounds" "segments" "LPlaneFaces$Segments;", Cond.fieldLink RX1 54 "PlaneFaces$Segments" "used" "[Z", Cond.methodLink RX1 51 yX1_findCorners, Cond.instanceMethod yX1_findCorners, Cond.selects RX1 yX1_findCorners yX1_findCorners, Cond.code yX1_findCorners cX1_findCorners 2 none, Cond.fieldLink RX1 18 "PlaneFaces$Rounds" "corner" "[I", Cond.fieldLink RX1 71 "PlaneFaces$Segments" "x" "[I", Cond.fieldLink RX1 74 "PlaneFaces$Segments" "y" "[I", Cond.methodLink RX1 77 yX2_leastHalfAt, Cond.instanceMethod yX2_leastHalfAt, Cond.selects RX2 yX2_leastHalfAt yX2_leastHalfAt, Cond.code yX2_leastHalfAt cX2_leastHalfAt 4 (some .int), Cond.fieldLink RX2 9 "PlaneFaces$Segments" "x" "[I", Cond.fieldLink RX2 15 "PlaneFaces$Segments" "y" "[I"]
def wsL_face_r3 : List Cond := [Cond.methodLink RX1 58 yX1_firstClockwise, Cond.instanceMethod yX1_firstClockwise, Cond.selects RX1 yX1_firstClockwise yX1_firstClockwise, Cond.code yX1_firstClockwise cX1_firstClockwise 5 (some .int), Cond.methodLink RX1 81 yX2_sooner, Cond.instanceMethod yX2_sooner, Cond.selects RX2 yX2_sooner yX2_sooner, Cond.code yX2_sooner cX2_sooner 6 (some .boolean), Cond.methodLink RX2 50 yX2_turn, Cond.instanceMethod yX2_turn, Cond.selects RX2 yX2_turn yX2_turn, Cond.code yX2_turn cX2_turn 7 (some .long), Cond.methodLink RX2 54 yX2_signOf, Cond.static yX2_signOf, Cond.code yX2_signOf cX2_signOf 2 (some .int), Cond.methodLink RX1 62 yX1_joinPieces, Cond.instanceMethod yX1_joinPieces, Cond.selects RX1 yX1_joinPieces yX1_joinPieces, Cond.code yX1_joinPieces cX1_joinPieces 2 none, Cond.fieldLink RX1 25 "PlaneFaces$Rounds" "root" "[I", Cond.methodLink RX1 85 yX1_joinRoots, Cond.instanceMethod yX1_joinRoots, Cond.selects RX1 yX1_joinRoots yX1_joinRoots, Cond.code yX1_joinRoots cX1_joinRoots 4 none]
def wsL_face_r4 : List Cond := [Cond.methodLink RX1 89 Lib.Math.max.name, Cond.static Lib.Math.max.name, Cond.initialized "java/lang/Math", Cond.code Lib.Math.max.name Lib.Math.max.code 2 (some .int), Cond.methodLink RX1 94 Lib.Math.min.name, Cond.static Lib.Math.min.name, Cond.code Lib.Math.min.name Lib.Math.min.code 2 (some .int), Cond.methodLink RX1 65 yX1_numberPieces, Cond.instanceMethod yX1_numberPieces, Cond.selects RX1 yX1_numberPieces yX1_numberPieces, Cond.code yX1_numberPieces cX1_numberPieces 2 none, Cond.fieldLink RX1 31 "PlaneFaces$Rounds" "pieces" "I", Cond.fieldLink RX1 28 "PlaneFaces$Rounds" "pieceOf" "[I", Cond.methodLink RX1 68 yX1_walkRounds, Cond.instanceMethod yX1_walkRounds, Cond.selects RX1 yX1_walkRounds yX1_walkRounds, Cond.code yX1_walkRounds cX1_walkRounds 2 none, Cond.fieldLink RX1 35 "PlaneFaces$Rounds" "roundOf" "[I", Cond.fieldLink RX1 48 "PlaneFaces$Rounds" "size" "I", Cond.methodLink RX1 97 yJ7_fill_53178, Cond.static yJ7_fill_53178, Cond.initialized RJ7, Cond.code yJ7_fill_53178 cJ7_fill_53178 4 none, Cond.methodLink RX1 103 yX1_walk]
def wsL_face_r5 : List Cond := [Cond.instanceMethod yX1_walk, Cond.selects RX1 yX1_walk yX1_walk, Cond.code yX1_walk cX1_walk 4 none, Cond.fieldLink RX1 38 "PlaneFaces$Rounds" "start" "[I", Cond.fieldLink RX1 41 "PlaneFaces$Rounds" "twice" "[J", Cond.methodLink RX1 107 yX2_sweep, Cond.instanceMethod yX2_sweep, Cond.selects RX2 yX2_sweep yX2_sweep, Cond.code yX2_sweep cX2_sweep 2 (some .long), Cond.methodLink RX3 163 yX0_settle, Cond.instanceMethod yX0_settle, Cond.selects RX0 yX0_settle yX0_settle, Cond.initialized RX0, Cond.code yX0_settle cX0_settle 2 none, Cond.fieldLink RX0 12 "PlaneFaces$Faces" "rounds" "LPlaneFaces$Rounds;", Cond.fieldLink RX0 49 "PlaneFaces$Rounds" "size" "I", Cond.fieldLink RX0 23 "PlaneFaces$Faces" "home" "[I", Cond.fieldLink RX0 33 "PlaneFaces$Faces" "outside" "[I", Cond.fieldLink RX0 30 "PlaneFaces$Faces" "faceOf" "[I", Cond.fieldLink RX0 54 "PlaneFaces$Rounds" "start" "[I", Cond.methodLink RX0 43 yX0_findHomes, Cond.instanceMethod yX0_findHomes, Cond.selects RX0 yX0_findHomes yX0_findHomes, Cond.code yX0_findHomes cX0_findHomes 3 none]
def wsL_face_r6 : List Cond := [Cond.fieldLink RX0 57 "PlaneFaces$Rounds" "twice" "[J", Cond.fieldLink RX0 22 "PlaneFaces$Faces" "segments" "LPlaneFaces$Segments;", Cond.fieldLink RX0 61 "PlaneFaces$Segments" "x" "[I", Cond.fieldLink RX0 66 "PlaneFaces$Segments" "y" "[I", Cond.methodLink RX0 50 yX1_pieceOfRound, Cond.instanceMethod yX1_pieceOfRound, Cond.selects RX1 yX1_pieceOfRound yX1_pieceOfRound, Cond.code yX1_pieceOfRound cX1_pieceOfRound 2 (some .int), Cond.methodLink RX0 69 yX1_enclosing, Cond.instanceMethod yX1_enclosing, Cond.selects RX1 yX1_enclosing yX1_enclosing, Cond.code yX1_enclosing cX1_enclosing 7 (some .int), Cond.fieldLink RX1 45 "PlaneFaces$Rounds" "odd" "[I", Cond.methodLink RX1 111 yX1_markOddRounds, Cond.instanceMethod yX1_markOddRounds, Cond.selects RX1 yX1_markOddRounds yX1_markOddRounds, Cond.code yX1_markOddRounds cX1_markOddRounds 4 none, Cond.methodLink RX1 117 yX2_roofs, Cond.instanceMethod yX2_roofs, Cond.selects RX2 yX2_roofs yX2_roofs, Cond.code yX2_roofs cX2_roofs 5 (some .boolean), Cond.methodLink RX2 58 yX2_rightward, Cond.instanceMethod yX2_rightward, Cond.selects RX2 yX2_rightward yX2_rightward]
def wsL_face_r7 : List Cond := [Cond.code yX2_rightward cX2_rightward 2 (some .int), Cond.methodLink RX2 46 yX2_side, Cond.instanceMethod yX2_side, Cond.selects RX2 yX2_side yX2_side, Cond.code yX2_side cX2_side 8 (some .long), Cond.methodLink RX1 114 yX1_pieceOfRound, Cond.methodLink RX0 46 yX0_numberFaces, Cond.instanceMethod yX0_numberFaces, Cond.selects RX0 yX0_numberFaces yX0_numberFaces, Cond.code yX0_numberFaces cX0_numberFaces 3 none, Cond.fieldLink RX0 27 "PlaneFaces$Faces" "number" "[I", Cond.fieldLink RX0 39 "PlaneFaces$Faces" "size" "I", Cond.fieldLink RX0 79 "PlaneFaces$Segments" "used" "[Z", Cond.fieldLink RX0 83 "PlaneFaces$Rounds" "roundOf" "[I", Cond.methodLink RX0 73 yJ7_fill_53178, Cond.methodLink RX0 86 yX0_faceWithin, Cond.instanceMethod yX0_faceWithin, Cond.selects RX0 yX0_faceWithin yX0_faceWithin, Cond.code yX0_faceWithin cX0_faceWithin 2 (some .int)]
def wsL_face : List Cond := .codeWith yL_face cL_face 4 (some .int) [(0, 9, 12, 21)] :: ((wsL_face_r1 ++ (wsL_face_r2 ++ (wsL_face_r3 ++ (wsL_face_r4 ++ (wsL_face_r5 ++ (wsL_face_r6 ++ wsL_face_r7)))))) ++ wsX30 ++ wsX00 ++ wsX20 ++ wsX10 ++ (vx_atS RX3 116 "java/lang/IndexOutOfBoundsException" ["java/lang/RuntimeException", "java/lang/Exception"]).filter goodWord)
def wsL_piece_r1 : List Cond := [Cond.classLink RL 21 "java/lang/IndexOutOfBoundsException", Cond.methodLink RL 30 yX3_piece, Cond.instanceMethod yX3_piece, Cond.selects RX3 yX3_piece yX3_piece, Cond.initialized RX3, Cond.code yX3_piece cX3_piece 2 (some .int), Cond.fieldLink RX3 20 "PlaneFaces" "rounds" "LPlaneFaces$Rounds;", Cond.fieldLink RX3 109 "PlaneFaces$Rounds" "pieceOf" "[I", Cond.methodLink RX3 93 yX3_requireHalf, Cond.instanceMethod yX3_requireHalf, Cond.selects RX3 yX3_requireHalf yX3_requireHalf, Cond.code yX3_requireHalf cX3_requireHalf 2 none, Cond.classLink RX3 112 "java/lang/IndexOutOfBoundsException", Cond.initialized "java/lang/IndexOutOfBoundsException", Cond.fieldLink RX3 27 "PlaneFaces" "segments" "LPlaneFaces$Segments;", Cond.methodLink RX3 66 yX2_has, Cond.instanceMethod yX2_has, Cond.selects RX2 yX2_has yX2_has, Cond.initialized RX2, Cond.code yX2_has cX2_has 2 (some .boolean), Cond.fieldLink RX2 18 "PlaneFaces$Segments" "used" "[Z", Cond.methodLink RX3 79 yX3_refresh, Cond.instanceMethod yX3_refresh, Cond.selects RX3 yX3_refresh yX3_refresh]
def wsL_piece_r2 : List Cond := [Cond.code yX3_refresh cX3_refresh 1 none, Cond.fieldLink RX3 28 "PlaneFaces" "stale" "Z", Cond.fieldLink RX3 12 "PlaneFaces" "faces" "LPlaneFaces$Faces;", Cond.methodLink RX3 160 yX1_trace, Cond.instanceMethod yX1_trace, Cond.selects RX1 yX1_trace yX1_trace, Cond.initialized RX1, Cond.code yX1_trace cX1_trace 2 none, Cond.fieldLink RX1 22 "PlaneFaces$Rounds" "following" "[I", Cond.fieldLink RX1 12 "PlaneFaces$Rounds" "segments" "LPlaneFaces$Segments;", Cond.fieldLink RX1 54 "PlaneFaces$Segments" "used" "[Z", Cond.methodLink RX1 51 yX1_findCorners, Cond.instanceMethod yX1_findCorners, Cond.selects RX1 yX1_findCorners yX1_findCorners, Cond.code yX1_findCorners cX1_findCorners 2 none, Cond.fieldLink RX1 18 "PlaneFaces$Rounds" "corner" "[I", Cond.fieldLink RX1 71 "PlaneFaces$Segments" "x" "[I", Cond.fieldLink RX1 74 "PlaneFaces$Segments" "y" "[I", Cond.methodLink RX1 77 yX2_leastHalfAt, Cond.instanceMethod yX2_leastHalfAt, Cond.selects RX2 yX2_leastHalfAt yX2_leastHalfAt, Cond.code yX2_leastHalfAt cX2_leastHalfAt 4 (some .int), Cond.fieldLink RX2 9 "PlaneFaces$Segments" "x" "[I", Cond.fieldLink RX2 15 "PlaneFaces$Segments" "y" "[I"]
def wsL_piece_r3 : List Cond := [Cond.methodLink RX1 58 yX1_firstClockwise, Cond.instanceMethod yX1_firstClockwise, Cond.selects RX1 yX1_firstClockwise yX1_firstClockwise, Cond.code yX1_firstClockwise cX1_firstClockwise 5 (some .int), Cond.methodLink RX1 81 yX2_sooner, Cond.instanceMethod yX2_sooner, Cond.selects RX2 yX2_sooner yX2_sooner, Cond.code yX2_sooner cX2_sooner 6 (some .boolean), Cond.methodLink RX2 50 yX2_turn, Cond.instanceMethod yX2_turn, Cond.selects RX2 yX2_turn yX2_turn, Cond.code yX2_turn cX2_turn 7 (some .long), Cond.methodLink RX2 54 yX2_signOf, Cond.static yX2_signOf, Cond.code yX2_signOf cX2_signOf 2 (some .int), Cond.methodLink RX1 62 yX1_joinPieces, Cond.instanceMethod yX1_joinPieces, Cond.selects RX1 yX1_joinPieces yX1_joinPieces, Cond.code yX1_joinPieces cX1_joinPieces 2 none, Cond.fieldLink RX1 25 "PlaneFaces$Rounds" "root" "[I", Cond.methodLink RX1 85 yX1_joinRoots, Cond.instanceMethod yX1_joinRoots, Cond.selects RX1 yX1_joinRoots yX1_joinRoots, Cond.code yX1_joinRoots cX1_joinRoots 4 none]
def wsL_piece_r4 : List Cond := [Cond.methodLink RX1 89 Lib.Math.max.name, Cond.static Lib.Math.max.name, Cond.initialized "java/lang/Math", Cond.code Lib.Math.max.name Lib.Math.max.code 2 (some .int), Cond.methodLink RX1 94 Lib.Math.min.name, Cond.static Lib.Math.min.name, Cond.code Lib.Math.min.name Lib.Math.min.code 2 (some .int), Cond.methodLink RX1 65 yX1_numberPieces, Cond.instanceMethod yX1_numberPieces, Cond.selects RX1 yX1_numberPieces yX1_numberPieces, Cond.code yX1_numberPieces cX1_numberPieces 2 none, Cond.fieldLink RX1 31 "PlaneFaces$Rounds" "pieces" "I", Cond.fieldLink RX1 28 "PlaneFaces$Rounds" "pieceOf" "[I", Cond.methodLink RX1 68 yX1_walkRounds, Cond.instanceMethod yX1_walkRounds, Cond.selects RX1 yX1_walkRounds yX1_walkRounds, Cond.code yX1_walkRounds cX1_walkRounds 2 none, Cond.fieldLink RX1 35 "PlaneFaces$Rounds" "roundOf" "[I", Cond.fieldLink RX1 48 "PlaneFaces$Rounds" "size" "I", Cond.methodLink RX1 97 yJ7_fill_53178, Cond.static yJ7_fill_53178, Cond.initialized RJ7, Cond.code yJ7_fill_53178 cJ7_fill_53178 4 none, Cond.methodLink RX1 103 yX1_walk]
def wsL_piece_r5 : List Cond := [Cond.instanceMethod yX1_walk, Cond.selects RX1 yX1_walk yX1_walk, Cond.code yX1_walk cX1_walk 4 none, Cond.fieldLink RX1 38 "PlaneFaces$Rounds" "start" "[I", Cond.fieldLink RX1 41 "PlaneFaces$Rounds" "twice" "[J", Cond.methodLink RX1 107 yX2_sweep, Cond.instanceMethod yX2_sweep, Cond.selects RX2 yX2_sweep yX2_sweep, Cond.code yX2_sweep cX2_sweep 2 (some .long), Cond.methodLink RX3 163 yX0_settle, Cond.instanceMethod yX0_settle, Cond.selects RX0 yX0_settle yX0_settle, Cond.initialized RX0, Cond.code yX0_settle cX0_settle 2 none, Cond.fieldLink RX0 12 "PlaneFaces$Faces" "rounds" "LPlaneFaces$Rounds;", Cond.fieldLink RX0 49 "PlaneFaces$Rounds" "size" "I", Cond.fieldLink RX0 23 "PlaneFaces$Faces" "home" "[I", Cond.fieldLink RX0 33 "PlaneFaces$Faces" "outside" "[I", Cond.fieldLink RX0 30 "PlaneFaces$Faces" "faceOf" "[I", Cond.fieldLink RX0 54 "PlaneFaces$Rounds" "start" "[I", Cond.methodLink RX0 43 yX0_findHomes, Cond.instanceMethod yX0_findHomes, Cond.selects RX0 yX0_findHomes yX0_findHomes, Cond.code yX0_findHomes cX0_findHomes 3 none]
def wsL_piece_r6 : List Cond := [Cond.fieldLink RX0 57 "PlaneFaces$Rounds" "twice" "[J", Cond.fieldLink RX0 22 "PlaneFaces$Faces" "segments" "LPlaneFaces$Segments;", Cond.fieldLink RX0 61 "PlaneFaces$Segments" "x" "[I", Cond.fieldLink RX0 66 "PlaneFaces$Segments" "y" "[I", Cond.methodLink RX0 50 yX1_pieceOfRound, Cond.instanceMethod yX1_pieceOfRound, Cond.selects RX1 yX1_pieceOfRound yX1_pieceOfRound, Cond.code yX1_pieceOfRound cX1_pieceOfRound 2 (some .int), Cond.methodLink RX0 69 yX1_enclosing, Cond.instanceMethod yX1_enclosing, Cond.selects RX1 yX1_enclosing yX1_enclosing, Cond.code yX1_enclosing cX1_enclosing 7 (some .int), Cond.fieldLink RX1 45 "PlaneFaces$Rounds" "odd" "[I", Cond.methodLink RX1 111 yX1_markOddRounds, Cond.instanceMethod yX1_markOddRounds, Cond.selects RX1 yX1_markOddRounds yX1_markOddRounds, Cond.code yX1_markOddRounds cX1_markOddRounds 4 none, Cond.methodLink RX1 117 yX2_roofs, Cond.instanceMethod yX2_roofs, Cond.selects RX2 yX2_roofs yX2_roofs, Cond.code yX2_roofs cX2_roofs 5 (some .boolean), Cond.methodLink RX2 58 yX2_rightward, Cond.instanceMethod yX2_rightward, Cond.selects RX2 yX2_rightward yX2_rightward]
def wsL_piece_r7 : List Cond := [Cond.code yX2_rightward cX2_rightward 2 (some .int), Cond.methodLink RX2 46 yX2_side, Cond.instanceMethod yX2_side, Cond.selects RX2 yX2_side yX2_side, Cond.code yX2_side cX2_side 8 (some .long), Cond.methodLink RX1 114 yX1_pieceOfRound, Cond.methodLink RX0 46 yX0_numberFaces, Cond.instanceMethod yX0_numberFaces, Cond.selects RX0 yX0_numberFaces yX0_numberFaces, Cond.code yX0_numberFaces cX0_numberFaces 3 none, Cond.fieldLink RX0 27 "PlaneFaces$Faces" "number" "[I", Cond.fieldLink RX0 39 "PlaneFaces$Faces" "size" "I", Cond.fieldLink RX0 79 "PlaneFaces$Segments" "used" "[Z", Cond.fieldLink RX0 83 "PlaneFaces$Rounds" "roundOf" "[I", Cond.methodLink RX0 73 yJ7_fill_53178, Cond.methodLink RX0 86 yX0_faceWithin, Cond.instanceMethod yX0_faceWithin, Cond.selects RX0 yX0_faceWithin yX0_faceWithin, Cond.code yX0_faceWithin cX0_faceWithin 2 (some .int)]
def wsL_piece : List Cond := .codeWith yL_piece cL_piece 4 (some .int) [(0, 9, 12, 21)] :: ((wsL_piece_r1 ++ (wsL_piece_r2 ++ (wsL_piece_r3 ++ (wsL_piece_r4 ++ (wsL_piece_r5 ++ (wsL_piece_r6 ++ wsL_piece_r7)))))) ++ wsX30 ++ wsX10 ++ wsX20 ++ wsX00 ++ (vx_atS RX3 116 "java/lang/IndexOutOfBoundsException" ["java/lang/RuntimeException", "java/lang/Exception"]).filter goodWord)
def wsL_around_r1 : List Cond := [Cond.classLink RL 21 "java/lang/IndexOutOfBoundsException", Cond.methodLink RL 33 yX3_around, Cond.instanceMethod yX3_around, Cond.selects RX3 yX3_around yX3_around, Cond.initialized RX3, Cond.code yX3_around cX3_around 2 (some .int), Cond.classLink RX3 112 "java/lang/IndexOutOfBoundsException", Cond.initialized "java/lang/IndexOutOfBoundsException", Cond.fieldLink RX3 20 "PlaneFaces" "rounds" "LPlaneFaces$Rounds;", Cond.fieldLink RX3 86 "PlaneFaces$Rounds" "pieces" "I", Cond.fieldLink RX3 12 "PlaneFaces" "faces" "LPlaneFaces$Faces;", Cond.fieldLink RX3 117 "PlaneFaces$Faces" "outside" "[I", Cond.methodLink RX3 79 yX3_refresh, Cond.instanceMethod yX3_refresh, Cond.selects RX3 yX3_refresh yX3_refresh, Cond.code yX3_refresh cX3_refresh 1 none, Cond.fieldLink RX3 28 "PlaneFaces" "stale" "Z", Cond.methodLink RX3 160 yX1_trace, Cond.instanceMethod yX1_trace, Cond.selects RX1 yX1_trace yX1_trace, Cond.initialized RX1, Cond.code yX1_trace cX1_trace 2 none, Cond.fieldLink RX1 22 "PlaneFaces$Rounds" "following" "[I", Cond.fieldLink RX1 12 "PlaneFaces$Rounds" "segments" "LPlaneFaces$Segments;"]
def wsL_around_r2 : List Cond := [Cond.fieldLink RX1 54 "PlaneFaces$Segments" "used" "[Z", Cond.methodLink RX1 51 yX1_findCorners, Cond.instanceMethod yX1_findCorners, Cond.selects RX1 yX1_findCorners yX1_findCorners, Cond.code yX1_findCorners cX1_findCorners 2 none, Cond.fieldLink RX1 18 "PlaneFaces$Rounds" "corner" "[I", Cond.fieldLink RX1 71 "PlaneFaces$Segments" "x" "[I", Cond.fieldLink RX1 74 "PlaneFaces$Segments" "y" "[I", Cond.methodLink RX1 77 yX2_leastHalfAt, Cond.instanceMethod yX2_leastHalfAt, Cond.selects RX2 yX2_leastHalfAt yX2_leastHalfAt, Cond.initialized RX2, Cond.code yX2_leastHalfAt cX2_leastHalfAt 4 (some .int), Cond.fieldLink RX2 18 "PlaneFaces$Segments" "used" "[Z", Cond.fieldLink RX2 9 "PlaneFaces$Segments" "x" "[I", Cond.fieldLink RX2 15 "PlaneFaces$Segments" "y" "[I", Cond.methodLink RX1 58 yX1_firstClockwise, Cond.instanceMethod yX1_firstClockwise, Cond.selects RX1 yX1_firstClockwise yX1_firstClockwise, Cond.code yX1_firstClockwise cX1_firstClockwise 5 (some .int), Cond.methodLink RX1 81 yX2_sooner, Cond.instanceMethod yX2_sooner, Cond.selects RX2 yX2_sooner yX2_sooner, Cond.code yX2_sooner cX2_sooner 6 (some .boolean)]
def wsL_around_r3 : List Cond := [Cond.methodLink RX2 50 yX2_turn, Cond.instanceMethod yX2_turn, Cond.selects RX2 yX2_turn yX2_turn, Cond.code yX2_turn cX2_turn 7 (some .long), Cond.methodLink RX2 54 yX2_signOf, Cond.static yX2_signOf, Cond.code yX2_signOf cX2_signOf 2 (some .int), Cond.methodLink RX1 62 yX1_joinPieces, Cond.instanceMethod yX1_joinPieces, Cond.selects RX1 yX1_joinPieces yX1_joinPieces, Cond.code yX1_joinPieces cX1_joinPieces 2 none, Cond.fieldLink RX1 25 "PlaneFaces$Rounds" "root" "[I", Cond.methodLink RX1 85 yX1_joinRoots, Cond.instanceMethod yX1_joinRoots, Cond.selects RX1 yX1_joinRoots yX1_joinRoots, Cond.code yX1_joinRoots cX1_joinRoots 4 none, Cond.methodLink RX1 89 Lib.Math.max.name, Cond.static Lib.Math.max.name, Cond.initialized "java/lang/Math", Cond.code Lib.Math.max.name Lib.Math.max.code 2 (some .int), Cond.methodLink RX1 94 Lib.Math.min.name, Cond.static Lib.Math.min.name, Cond.code Lib.Math.min.name Lib.Math.min.code 2 (some .int), Cond.methodLink RX1 65 yX1_numberPieces]
def wsL_around_r4 : List Cond := [Cond.instanceMethod yX1_numberPieces, Cond.selects RX1 yX1_numberPieces yX1_numberPieces, Cond.code yX1_numberPieces cX1_numberPieces 2 none, Cond.fieldLink RX1 31 "PlaneFaces$Rounds" "pieces" "I", Cond.fieldLink RX1 28 "PlaneFaces$Rounds" "pieceOf" "[I", Cond.methodLink RX1 68 yX1_walkRounds, Cond.instanceMethod yX1_walkRounds, Cond.selects RX1 yX1_walkRounds yX1_walkRounds, Cond.code yX1_walkRounds cX1_walkRounds 2 none, Cond.fieldLink RX1 35 "PlaneFaces$Rounds" "roundOf" "[I", Cond.fieldLink RX1 48 "PlaneFaces$Rounds" "size" "I", Cond.methodLink RX1 97 yJ7_fill_53178, Cond.static yJ7_fill_53178, Cond.initialized RJ7, Cond.code yJ7_fill_53178 cJ7_fill_53178 4 none, Cond.methodLink RX1 103 yX1_walk, Cond.instanceMethod yX1_walk, Cond.selects RX1 yX1_walk yX1_walk, Cond.code yX1_walk cX1_walk 4 none, Cond.fieldLink RX1 38 "PlaneFaces$Rounds" "start" "[I", Cond.fieldLink RX1 41 "PlaneFaces$Rounds" "twice" "[J", Cond.methodLink RX1 107 yX2_sweep, Cond.instanceMethod yX2_sweep, Cond.selects RX2 yX2_sweep yX2_sweep]
def wsL_around_r5 : List Cond := [Cond.code yX2_sweep cX2_sweep 2 (some .long), Cond.methodLink RX3 163 yX0_settle, Cond.instanceMethod yX0_settle, Cond.selects RX0 yX0_settle yX0_settle, Cond.initialized RX0, Cond.code yX0_settle cX0_settle 2 none, Cond.fieldLink RX0 12 "PlaneFaces$Faces" "rounds" "LPlaneFaces$Rounds;", Cond.fieldLink RX0 49 "PlaneFaces$Rounds" "size" "I", Cond.fieldLink RX0 23 "PlaneFaces$Faces" "home" "[I", Cond.fieldLink RX0 33 "PlaneFaces$Faces" "outside" "[I", Cond.fieldLink RX0 30 "PlaneFaces$Faces" "faceOf" "[I", Cond.fieldLink RX0 54 "PlaneFaces$Rounds" "start" "[I", Cond.methodLink RX0 43 yX0_findHomes, Cond.instanceMethod yX0_findHomes, Cond.selects RX0 yX0_findHomes yX0_findHomes, Cond.code yX0_findHomes cX0_findHomes 3 none, Cond.fieldLink RX0 57 "PlaneFaces$Rounds" "twice" "[J", Cond.fieldLink RX0 22 "PlaneFaces$Faces" "segments" "LPlaneFaces$Segments;", Cond.fieldLink RX0 61 "PlaneFaces$Segments" "x" "[I", Cond.fieldLink RX0 66 "PlaneFaces$Segments" "y" "[I", Cond.methodLink RX0 50 yX1_pieceOfRound, Cond.instanceMethod yX1_pieceOfRound, Cond.selects RX1 yX1_pieceOfRound yX1_pieceOfRound, Cond.code yX1_pieceOfRound cX1_pieceOfRound 2 (some .int)]
def wsL_around_r6 : List Cond := [Cond.methodLink RX0 69 yX1_enclosing, Cond.instanceMethod yX1_enclosing, Cond.selects RX1 yX1_enclosing yX1_enclosing, Cond.code yX1_enclosing cX1_enclosing 7 (some .int), Cond.fieldLink RX1 45 "PlaneFaces$Rounds" "odd" "[I", Cond.methodLink RX1 111 yX1_markOddRounds, Cond.instanceMethod yX1_markOddRounds, Cond.selects RX1 yX1_markOddRounds yX1_markOddRounds, Cond.code yX1_markOddRounds cX1_markOddRounds 4 none, Cond.methodLink RX1 117 yX2_roofs, Cond.instanceMethod yX2_roofs, Cond.selects RX2 yX2_roofs yX2_roofs, Cond.code yX2_roofs cX2_roofs 5 (some .boolean), Cond.methodLink RX2 58 yX2_rightward, Cond.instanceMethod yX2_rightward, Cond.selects RX2 yX2_rightward yX2_rightward, Cond.code yX2_rightward cX2_rightward 2 (some .int), Cond.methodLink RX2 46 yX2_side, Cond.instanceMethod yX2_side, Cond.selects RX2 yX2_side yX2_side, Cond.code yX2_side cX2_side 8 (some .long), Cond.methodLink RX1 114 yX1_pieceOfRound, Cond.methodLink RX0 46 yX0_numberFaces, Cond.instanceMethod yX0_numberFaces]
def wsL_around_r7 : List Cond := [Cond.selects RX0 yX0_numberFaces yX0_numberFaces, Cond.code yX0_numberFaces cX0_numberFaces 3 none, Cond.fieldLink RX0 27 "PlaneFaces$Faces" "number" "[I", Cond.fieldLink RX0 39 "PlaneFaces$Faces" "size" "I", Cond.fieldLink RX0 79 "PlaneFaces$Segments" "used" "[Z", Cond.fieldLink RX0 83 "PlaneFaces$Rounds" "roundOf" "[I", Cond.methodLink RX0 73 yJ7_fill_53178, Cond.methodLink RX0 86 yX0_faceWithin, Cond.instanceMethod yX0_faceWithin, Cond.selects RX0 yX0_faceWithin yX0_faceWithin, Cond.code yX0_faceWithin cX0_faceWithin 2 (some .int)]
def wsL_around : List Cond := .codeWith yL_around cL_around 4 (some .int) [(0, 9, 12, 21)] :: ((wsL_around_r1 ++ (wsL_around_r2 ++ (wsL_around_r3 ++ (wsL_around_r4 ++ (wsL_around_r5 ++ (wsL_around_r6 ++ wsL_around_r7)))))) ++ wsX30 ++ wsX10 ++ wsX00 ++ wsX20 ++ (vx_atS RX3 116 "java/lang/IndexOutOfBoundsException" ["java/lang/RuntimeException", "java/lang/Exception"]).filter goodWord)
def wsL_area_r1 : List Cond := [Cond.classLink RL 21 "java/lang/IndexOutOfBoundsException", Cond.methodLink RL 36 yX3_area, Cond.instanceMethod yX3_area, Cond.selects RX3 yX3_area yX3_area, Cond.initialized RX3, Cond.code yX3_area cX3_area 2 (some .int), Cond.fieldLink RX3 12 "PlaneFaces" "faces" "LPlaneFaces$Faces;", Cond.methodLink RX3 79 yX3_refresh, Cond.instanceMethod yX3_refresh, Cond.selects RX3 yX3_refresh yX3_refresh, Cond.code yX3_refresh cX3_refresh 1 none, Cond.fieldLink RX3 28 "PlaneFaces" "stale" "Z", Cond.fieldLink RX3 20 "PlaneFaces" "rounds" "LPlaneFaces$Rounds;", Cond.methodLink RX3 160 yX1_trace, Cond.instanceMethod yX1_trace, Cond.selects RX1 yX1_trace yX1_trace, Cond.initialized RX1, Cond.code yX1_trace cX1_trace 2 none, Cond.fieldLink RX1 22 "PlaneFaces$Rounds" "following" "[I", Cond.fieldLink RX1 12 "PlaneFaces$Rounds" "segments" "LPlaneFaces$Segments;", Cond.fieldLink RX1 54 "PlaneFaces$Segments" "used" "[Z", Cond.methodLink RX1 51 yX1_findCorners, Cond.instanceMethod yX1_findCorners, Cond.selects RX1 yX1_findCorners yX1_findCorners]
def wsL_area_r2 : List Cond := [Cond.code yX1_findCorners cX1_findCorners 2 none, Cond.fieldLink RX1 18 "PlaneFaces$Rounds" "corner" "[I", Cond.fieldLink RX1 71 "PlaneFaces$Segments" "x" "[I", Cond.fieldLink RX1 74 "PlaneFaces$Segments" "y" "[I", Cond.methodLink RX1 77 yX2_leastHalfAt, Cond.instanceMethod yX2_leastHalfAt, Cond.selects RX2 yX2_leastHalfAt yX2_leastHalfAt, Cond.initialized RX2, Cond.code yX2_leastHalfAt cX2_leastHalfAt 4 (some .int), Cond.fieldLink RX2 18 "PlaneFaces$Segments" "used" "[Z", Cond.fieldLink RX2 9 "PlaneFaces$Segments" "x" "[I", Cond.fieldLink RX2 15 "PlaneFaces$Segments" "y" "[I", Cond.methodLink RX1 58 yX1_firstClockwise, Cond.instanceMethod yX1_firstClockwise, Cond.selects RX1 yX1_firstClockwise yX1_firstClockwise, Cond.code yX1_firstClockwise cX1_firstClockwise 5 (some .int), Cond.methodLink RX1 81 yX2_sooner, Cond.instanceMethod yX2_sooner, Cond.selects RX2 yX2_sooner yX2_sooner, Cond.code yX2_sooner cX2_sooner 6 (some .boolean), Cond.methodLink RX2 50 yX2_turn, Cond.instanceMethod yX2_turn, Cond.selects RX2 yX2_turn yX2_turn, Cond.code yX2_turn cX2_turn 7 (some .long)]
def wsL_area_r3 : List Cond := [Cond.methodLink RX2 54 yX2_signOf, Cond.static yX2_signOf, Cond.code yX2_signOf cX2_signOf 2 (some .int), Cond.methodLink RX1 62 yX1_joinPieces, Cond.instanceMethod yX1_joinPieces, Cond.selects RX1 yX1_joinPieces yX1_joinPieces, Cond.code yX1_joinPieces cX1_joinPieces 2 none, Cond.fieldLink RX1 25 "PlaneFaces$Rounds" "root" "[I", Cond.methodLink RX1 85 yX1_joinRoots, Cond.instanceMethod yX1_joinRoots, Cond.selects RX1 yX1_joinRoots yX1_joinRoots, Cond.code yX1_joinRoots cX1_joinRoots 4 none, Cond.methodLink RX1 89 Lib.Math.max.name, Cond.static Lib.Math.max.name, Cond.initialized "java/lang/Math", Cond.code Lib.Math.max.name Lib.Math.max.code 2 (some .int), Cond.methodLink RX1 94 Lib.Math.min.name, Cond.static Lib.Math.min.name, Cond.code Lib.Math.min.name Lib.Math.min.code 2 (some .int), Cond.methodLink RX1 65 yX1_numberPieces, Cond.instanceMethod yX1_numberPieces, Cond.selects RX1 yX1_numberPieces yX1_numberPieces, Cond.code yX1_numberPieces cX1_numberPieces 2 none, Cond.fieldLink RX1 31 "PlaneFaces$Rounds" "pieces" "I"]
def wsL_area_r4 : List Cond := [Cond.fieldLink RX1 28 "PlaneFaces$Rounds" "pieceOf" "[I", Cond.methodLink RX1 68 yX1_walkRounds, Cond.instanceMethod yX1_walkRounds, Cond.selects RX1 yX1_walkRounds yX1_walkRounds, Cond.code yX1_walkRounds cX1_walkRounds 2 none, Cond.fieldLink RX1 35 "PlaneFaces$Rounds" "roundOf" "[I", Cond.fieldLink RX1 48 "PlaneFaces$Rounds" "size" "I", Cond.methodLink RX1 97 yJ7_fill_53178, Cond.static yJ7_fill_53178, Cond.initialized RJ7, Cond.code yJ7_fill_53178 cJ7_fill_53178 4 none, Cond.methodLink RX1 103 yX1_walk, Cond.instanceMethod yX1_walk, Cond.selects RX1 yX1_walk yX1_walk, Cond.code yX1_walk cX1_walk 4 none, Cond.fieldLink RX1 38 "PlaneFaces$Rounds" "start" "[I", Cond.fieldLink RX1 41 "PlaneFaces$Rounds" "twice" "[J", Cond.methodLink RX1 107 yX2_sweep, Cond.instanceMethod yX2_sweep, Cond.selects RX2 yX2_sweep yX2_sweep, Cond.code yX2_sweep cX2_sweep 2 (some .long), Cond.methodLink RX3 163 yX0_settle, Cond.instanceMethod yX0_settle, Cond.selects RX0 yX0_settle yX0_settle]
def wsL_area_r5 : List Cond := [Cond.initialized RX0, Cond.code yX0_settle cX0_settle 2 none, Cond.fieldLink RX0 12 "PlaneFaces$Faces" "rounds" "LPlaneFaces$Rounds;", Cond.fieldLink RX0 49 "PlaneFaces$Rounds" "size" "I", Cond.fieldLink RX0 23 "PlaneFaces$Faces" "home" "[I", Cond.fieldLink RX0 33 "PlaneFaces$Faces" "outside" "[I", Cond.fieldLink RX0 30 "PlaneFaces$Faces" "faceOf" "[I", Cond.fieldLink RX0 54 "PlaneFaces$Rounds" "start" "[I", Cond.methodLink RX0 43 yX0_findHomes, Cond.instanceMethod yX0_findHomes, Cond.selects RX0 yX0_findHomes yX0_findHomes, Cond.code yX0_findHomes cX0_findHomes 3 none, Cond.fieldLink RX0 57 "PlaneFaces$Rounds" "twice" "[J", Cond.fieldLink RX0 22 "PlaneFaces$Faces" "segments" "LPlaneFaces$Segments;", Cond.fieldLink RX0 61 "PlaneFaces$Segments" "x" "[I", Cond.fieldLink RX0 66 "PlaneFaces$Segments" "y" "[I", Cond.methodLink RX0 50 yX1_pieceOfRound, Cond.instanceMethod yX1_pieceOfRound, Cond.selects RX1 yX1_pieceOfRound yX1_pieceOfRound, Cond.code yX1_pieceOfRound cX1_pieceOfRound 2 (some .int), Cond.methodLink RX0 69 yX1_enclosing, Cond.instanceMethod yX1_enclosing, Cond.selects RX1 yX1_enclosing yX1_enclosing, Cond.code yX1_enclosing cX1_enclosing 7 (some .int)]
def wsL_area_r6 : List Cond := [Cond.fieldLink RX1 45 "PlaneFaces$Rounds" "odd" "[I", Cond.methodLink RX1 111 yX1_markOddRounds, Cond.instanceMethod yX1_markOddRounds, Cond.selects RX1 yX1_markOddRounds yX1_markOddRounds, Cond.code yX1_markOddRounds cX1_markOddRounds 4 none, Cond.methodLink RX1 117 yX2_roofs, Cond.instanceMethod yX2_roofs, Cond.selects RX2 yX2_roofs yX2_roofs, Cond.code yX2_roofs cX2_roofs 5 (some .boolean), Cond.methodLink RX2 58 yX2_rightward, Cond.instanceMethod yX2_rightward, Cond.selects RX2 yX2_rightward yX2_rightward, Cond.code yX2_rightward cX2_rightward 2 (some .int), Cond.methodLink RX2 46 yX2_side, Cond.instanceMethod yX2_side, Cond.selects RX2 yX2_side yX2_side, Cond.code yX2_side cX2_side 8 (some .long), Cond.methodLink RX1 114 yX1_pieceOfRound, Cond.methodLink RX0 46 yX0_numberFaces, Cond.instanceMethod yX0_numberFaces, Cond.selects RX0 yX0_numberFaces yX0_numberFaces, Cond.code yX0_numberFaces cX0_numberFaces 3 none, Cond.fieldLink RX0 27 "PlaneFaces$Faces" "number" "[I", Cond.fieldLink RX0 39 "PlaneFaces$Faces" "size" "I"]
def wsL_area_r7 : List Cond := [Cond.fieldLink RX0 79 "PlaneFaces$Segments" "used" "[Z", Cond.fieldLink RX0 83 "PlaneFaces$Rounds" "roundOf" "[I", Cond.methodLink RX0 73 yJ7_fill_53178, Cond.methodLink RX0 86 yX0_faceWithin, Cond.instanceMethod yX0_faceWithin, Cond.selects RX0 yX0_faceWithin yX0_faceWithin, Cond.code yX0_faceWithin cX0_faceWithin 2 (some .int), Cond.methodLink RX3 120 yX3_requireFace, Cond.instanceMethod yX3_requireFace, Cond.selects RX3 yX3_requireFace yX3_requireFace, Cond.code yX3_requireFace cX3_requireFace 2 none, Cond.classLink RX3 112 "java/lang/IndexOutOfBoundsException", Cond.initialized "java/lang/IndexOutOfBoundsException", Cond.fieldLink RX3 85 "PlaneFaces$Faces" "size" "I", Cond.methodLink RX3 123 yX0_twiceArea, Cond.instanceMethod yX0_twiceArea, Cond.selects RX0 yX0_twiceArea yX0_twiceArea, Cond.code yX0_twiceArea cX0_twiceArea 5 (some .long)]
def wsL_area : List Cond := .codeWith yL_area cL_area 4 (some .int) [(0, 9, 12, 21)] :: ((wsL_area_r1 ++ (wsL_area_r2 ++ (wsL_area_r3 ++ (wsL_area_r4 ++ (wsL_area_r5 ++ (wsL_area_r6 ++ wsL_area_r7)))))) ++ wsX30 ++ wsX10 ++ wsX20 ++ wsX00 ++ (vx_atS RX3 116 "java/lang/IndexOutOfBoundsException" ["java/lang/RuntimeException", "java/lang/Exception"]).filter goodWord)
def wsL_border_r1 : List Cond := [Cond.classLink RL 21 "java/lang/IndexOutOfBoundsException", Cond.methodLink RL 39 yX3_border, Cond.instanceMethod yX3_border, Cond.selects RX3 yX3_border yX3_border, Cond.initialized RX3, Cond.code yX3_border cX3_border 3 (some .int), Cond.fieldLink RX3 12 "PlaneFaces" "faces" "LPlaneFaces$Faces;", Cond.methodLink RX3 79 yX3_refresh, Cond.instanceMethod yX3_refresh, Cond.selects RX3 yX3_refresh yX3_refresh, Cond.code yX3_refresh cX3_refresh 1 none, Cond.fieldLink RX3 28 "PlaneFaces" "stale" "Z", Cond.fieldLink RX3 20 "PlaneFaces" "rounds" "LPlaneFaces$Rounds;", Cond.methodLink RX3 160 yX1_trace, Cond.instanceMethod yX1_trace, Cond.selects RX1 yX1_trace yX1_trace, Cond.initialized RX1, Cond.code yX1_trace cX1_trace 2 none, Cond.fieldLink RX1 22 "PlaneFaces$Rounds" "following" "[I", Cond.fieldLink RX1 12 "PlaneFaces$Rounds" "segments" "LPlaneFaces$Segments;", Cond.fieldLink RX1 54 "PlaneFaces$Segments" "used" "[Z", Cond.methodLink RX1 51 yX1_findCorners, Cond.instanceMethod yX1_findCorners, Cond.selects RX1 yX1_findCorners yX1_findCorners]
def wsL_border_r2 : List Cond := [Cond.code yX1_findCorners cX1_findCorners 2 none, Cond.fieldLink RX1 18 "PlaneFaces$Rounds" "corner" "[I", Cond.fieldLink RX1 71 "PlaneFaces$Segments" "x" "[I", Cond.fieldLink RX1 74 "PlaneFaces$Segments" "y" "[I", Cond.methodLink RX1 77 yX2_leastHalfAt, Cond.instanceMethod yX2_leastHalfAt, Cond.selects RX2 yX2_leastHalfAt yX2_leastHalfAt, Cond.initialized RX2, Cond.code yX2_leastHalfAt cX2_leastHalfAt 4 (some .int), Cond.fieldLink RX2 18 "PlaneFaces$Segments" "used" "[Z", Cond.fieldLink RX2 9 "PlaneFaces$Segments" "x" "[I", Cond.fieldLink RX2 15 "PlaneFaces$Segments" "y" "[I", Cond.methodLink RX1 58 yX1_firstClockwise, Cond.instanceMethod yX1_firstClockwise, Cond.selects RX1 yX1_firstClockwise yX1_firstClockwise, Cond.code yX1_firstClockwise cX1_firstClockwise 5 (some .int), Cond.methodLink RX1 81 yX2_sooner, Cond.instanceMethod yX2_sooner, Cond.selects RX2 yX2_sooner yX2_sooner, Cond.code yX2_sooner cX2_sooner 6 (some .boolean), Cond.methodLink RX2 50 yX2_turn, Cond.instanceMethod yX2_turn, Cond.selects RX2 yX2_turn yX2_turn, Cond.code yX2_turn cX2_turn 7 (some .long)]
def wsL_border_r3 : List Cond := [Cond.methodLink RX2 54 yX2_signOf, Cond.static yX2_signOf, Cond.code yX2_signOf cX2_signOf 2 (some .int), Cond.methodLink RX1 62 yX1_joinPieces, Cond.instanceMethod yX1_joinPieces, Cond.selects RX1 yX1_joinPieces yX1_joinPieces, Cond.code yX1_joinPieces cX1_joinPieces 2 none, Cond.fieldLink RX1 25 "PlaneFaces$Rounds" "root" "[I", Cond.methodLink RX1 85 yX1_joinRoots, Cond.instanceMethod yX1_joinRoots, Cond.selects RX1 yX1_joinRoots yX1_joinRoots, Cond.code yX1_joinRoots cX1_joinRoots 4 none, Cond.methodLink RX1 89 Lib.Math.max.name, Cond.static Lib.Math.max.name, Cond.initialized "java/lang/Math", Cond.code Lib.Math.max.name Lib.Math.max.code 2 (some .int), Cond.methodLink RX1 94 Lib.Math.min.name, Cond.static Lib.Math.min.name, Cond.code Lib.Math.min.name Lib.Math.min.code 2 (some .int), Cond.methodLink RX1 65 yX1_numberPieces, Cond.instanceMethod yX1_numberPieces, Cond.selects RX1 yX1_numberPieces yX1_numberPieces, Cond.code yX1_numberPieces cX1_numberPieces 2 none, Cond.fieldLink RX1 31 "PlaneFaces$Rounds" "pieces" "I"]
def wsL_border_r4 : List Cond := [Cond.fieldLink RX1 28 "PlaneFaces$Rounds" "pieceOf" "[I", Cond.methodLink RX1 68 yX1_walkRounds, Cond.instanceMethod yX1_walkRounds, Cond.selects RX1 yX1_walkRounds yX1_walkRounds, Cond.code yX1_walkRounds cX1_walkRounds 2 none, Cond.fieldLink RX1 35 "PlaneFaces$Rounds" "roundOf" "[I", Cond.fieldLink RX1 48 "PlaneFaces$Rounds" "size" "I", Cond.methodLink RX1 97 yJ7_fill_53178, Cond.static yJ7_fill_53178, Cond.initialized RJ7, Cond.code yJ7_fill_53178 cJ7_fill_53178 4 none, Cond.methodLink RX1 103 yX1_walk, Cond.instanceMethod yX1_walk, Cond.selects RX1 yX1_walk yX1_walk, Cond.code yX1_walk cX1_walk 4 none, Cond.fieldLink RX1 38 "PlaneFaces$Rounds" "start" "[I", Cond.fieldLink RX1 41 "PlaneFaces$Rounds" "twice" "[J", Cond.methodLink RX1 107 yX2_sweep, Cond.instanceMethod yX2_sweep, Cond.selects RX2 yX2_sweep yX2_sweep, Cond.code yX2_sweep cX2_sweep 2 (some .long), Cond.methodLink RX3 163 yX0_settle, Cond.instanceMethod yX0_settle, Cond.selects RX0 yX0_settle yX0_settle]
def wsL_border_r5 : List Cond := [Cond.initialized RX0, Cond.code yX0_settle cX0_settle 2 none, Cond.fieldLink RX0 12 "PlaneFaces$Faces" "rounds" "LPlaneFaces$Rounds;", Cond.fieldLink RX0 49 "PlaneFaces$Rounds" "size" "I", Cond.fieldLink RX0 23 "PlaneFaces$Faces" "home" "[I", Cond.fieldLink RX0 33 "PlaneFaces$Faces" "outside" "[I", Cond.fieldLink RX0 30 "PlaneFaces$Faces" "faceOf" "[I", Cond.fieldLink RX0 54 "PlaneFaces$Rounds" "start" "[I", Cond.methodLink RX0 43 yX0_findHomes, Cond.instanceMethod yX0_findHomes, Cond.selects RX0 yX0_findHomes yX0_findHomes, Cond.code yX0_findHomes cX0_findHomes 3 none, Cond.fieldLink RX0 57 "PlaneFaces$Rounds" "twice" "[J", Cond.fieldLink RX0 22 "PlaneFaces$Faces" "segments" "LPlaneFaces$Segments;", Cond.fieldLink RX0 61 "PlaneFaces$Segments" "x" "[I", Cond.fieldLink RX0 66 "PlaneFaces$Segments" "y" "[I", Cond.methodLink RX0 50 yX1_pieceOfRound, Cond.instanceMethod yX1_pieceOfRound, Cond.selects RX1 yX1_pieceOfRound yX1_pieceOfRound, Cond.code yX1_pieceOfRound cX1_pieceOfRound 2 (some .int), Cond.methodLink RX0 69 yX1_enclosing, Cond.instanceMethod yX1_enclosing, Cond.selects RX1 yX1_enclosing yX1_enclosing, Cond.code yX1_enclosing cX1_enclosing 7 (some .int)]
def wsL_border_r6 : List Cond := [Cond.fieldLink RX1 45 "PlaneFaces$Rounds" "odd" "[I", Cond.methodLink RX1 111 yX1_markOddRounds, Cond.instanceMethod yX1_markOddRounds, Cond.selects RX1 yX1_markOddRounds yX1_markOddRounds, Cond.code yX1_markOddRounds cX1_markOddRounds 4 none, Cond.methodLink RX1 117 yX2_roofs, Cond.instanceMethod yX2_roofs, Cond.selects RX2 yX2_roofs yX2_roofs, Cond.code yX2_roofs cX2_roofs 5 (some .boolean), Cond.methodLink RX2 58 yX2_rightward, Cond.instanceMethod yX2_rightward, Cond.selects RX2 yX2_rightward yX2_rightward, Cond.code yX2_rightward cX2_rightward 2 (some .int), Cond.methodLink RX2 46 yX2_side, Cond.instanceMethod yX2_side, Cond.selects RX2 yX2_side yX2_side, Cond.code yX2_side cX2_side 8 (some .long), Cond.methodLink RX1 114 yX1_pieceOfRound, Cond.methodLink RX0 46 yX0_numberFaces, Cond.instanceMethod yX0_numberFaces, Cond.selects RX0 yX0_numberFaces yX0_numberFaces, Cond.code yX0_numberFaces cX0_numberFaces 3 none, Cond.fieldLink RX0 27 "PlaneFaces$Faces" "number" "[I", Cond.fieldLink RX0 39 "PlaneFaces$Faces" "size" "I"]
def wsL_border_r7 : List Cond := [Cond.fieldLink RX0 79 "PlaneFaces$Segments" "used" "[Z", Cond.fieldLink RX0 83 "PlaneFaces$Rounds" "roundOf" "[I", Cond.methodLink RX0 73 yJ7_fill_53178, Cond.methodLink RX0 86 yX0_faceWithin, Cond.instanceMethod yX0_faceWithin, Cond.selects RX0 yX0_faceWithin yX0_faceWithin, Cond.code yX0_faceWithin cX0_faceWithin 2 (some .int), Cond.methodLink RX3 120 yX3_requireFace, Cond.instanceMethod yX3_requireFace, Cond.selects RX3 yX3_requireFace yX3_requireFace, Cond.code yX3_requireFace cX3_requireFace 2 none, Cond.classLink RX3 112 "java/lang/IndexOutOfBoundsException", Cond.initialized "java/lang/IndexOutOfBoundsException", Cond.fieldLink RX3 85 "PlaneFaces$Faces" "size" "I", Cond.methodLink RX3 127 yX0_roundsOf, Cond.instanceMethod yX0_roundsOf, Cond.selects RX0 yX0_roundsOf yX0_roundsOf, Cond.code yX0_roundsOf cX0_roundsOf 4 (some .int), Cond.methodLink RX3 131 yX0_halvesOf, Cond.instanceMethod yX0_halvesOf, Cond.selects RX0 yX0_halvesOf yX0_halvesOf, Cond.code yX0_halvesOf cX0_halvesOf 4 (some .int), Cond.methodLink RX3 134 yX0_leastHalfOf, Cond.instanceMethod yX0_leastHalfOf]
def wsL_border_r8 : List Cond := [Cond.selects RX0 yX0_leastHalfOf yX0_leastHalfOf, Cond.code yX0_leastHalfOf cX0_leastHalfOf 3 (some .int), Cond.methodLink RX3 137 yX0_piecesIn, Cond.instanceMethod yX0_piecesIn, Cond.selects RX0 yX0_piecesIn yX0_piecesIn, Cond.code yX0_piecesIn cX0_piecesIn 4 (some .int), Cond.fieldLink RX0 89 "PlaneFaces$Rounds" "pieces" "I"]
def wsL_border : List Cond := .codeWith yL_border cL_border 5 (some .int) [(0, 10, 13, 21)] :: ((wsL_border_r1 ++ (wsL_border_r2 ++ (wsL_border_r3 ++ (wsL_border_r4 ++ (wsL_border_r5 ++ (wsL_border_r6 ++ (wsL_border_r7 ++ wsL_border_r8))))))) ++ wsX30 ++ wsX10 ++ wsX20 ++ wsX00 ++ (vx_atS RX3 116 "java/lang/IndexOutOfBoundsException" ["java/lang/RuntimeException", "java/lang/Exception"]).filter goodWord)
def wsL_locate_r1 : List Cond := [Cond.classLink RL 13 "java/lang/IllegalArgumentException", Cond.methodLink RL 43 yX3_locate, Cond.instanceMethod yX3_locate, Cond.selects RX3 yX3_locate yX3_locate, Cond.initialized RX3, Cond.code yX3_locate cX3_locate 5 (some .int), Cond.fieldLink RX3 27 "PlaneFaces" "segments" "LPlaneFaces$Segments;", Cond.fieldLink RX3 12 "PlaneFaces" "faces" "LPlaneFaces$Faces;", Cond.fieldLink RX3 20 "PlaneFaces" "rounds" "LPlaneFaces$Rounds;", Cond.methodLink RX3 32 yX3_requirePlace, Cond.static yX3_requirePlace, Cond.code yX3_requirePlace cX3_requirePlace 2 none, Cond.classLink RX3 36 "java/lang/IllegalArgumentException", Cond.initialized "java/lang/IllegalArgumentException", Cond.methodLink RX3 79 yX3_refresh, Cond.instanceMethod yX3_refresh, Cond.selects RX3 yX3_refresh yX3_refresh, Cond.code yX3_refresh cX3_refresh 1 none, Cond.fieldLink RX3 28 "PlaneFaces" "stale" "Z", Cond.methodLink RX3 160 yX1_trace, Cond.instanceMethod yX1_trace, Cond.selects RX1 yX1_trace yX1_trace, Cond.initialized RX1, Cond.code yX1_trace cX1_trace 2 none]
def wsL_locate_r2 : List Cond := [Cond.fieldLink RX1 22 "PlaneFaces$Rounds" "following" "[I", Cond.fieldLink RX1 12 "PlaneFaces$Rounds" "segments" "LPlaneFaces$Segments;", Cond.fieldLink RX1 54 "PlaneFaces$Segments" "used" "[Z", Cond.methodLink RX1 51 yX1_findCorners, Cond.instanceMethod yX1_findCorners, Cond.selects RX1 yX1_findCorners yX1_findCorners, Cond.code yX1_findCorners cX1_findCorners 2 none, Cond.fieldLink RX1 18 "PlaneFaces$Rounds" "corner" "[I", Cond.fieldLink RX1 71 "PlaneFaces$Segments" "x" "[I", Cond.fieldLink RX1 74 "PlaneFaces$Segments" "y" "[I", Cond.methodLink RX1 77 yX2_leastHalfAt, Cond.instanceMethod yX2_leastHalfAt, Cond.selects RX2 yX2_leastHalfAt yX2_leastHalfAt, Cond.initialized RX2, Cond.code yX2_leastHalfAt cX2_leastHalfAt 4 (some .int), Cond.fieldLink RX2 18 "PlaneFaces$Segments" "used" "[Z", Cond.fieldLink RX2 9 "PlaneFaces$Segments" "x" "[I", Cond.fieldLink RX2 15 "PlaneFaces$Segments" "y" "[I", Cond.methodLink RX1 58 yX1_firstClockwise, Cond.instanceMethod yX1_firstClockwise, Cond.selects RX1 yX1_firstClockwise yX1_firstClockwise, Cond.code yX1_firstClockwise cX1_firstClockwise 5 (some .int), Cond.methodLink RX1 81 yX2_sooner, Cond.instanceMethod yX2_sooner]
def wsL_locate_r3 : List Cond := [Cond.selects RX2 yX2_sooner yX2_sooner, Cond.code yX2_sooner cX2_sooner 6 (some .boolean), Cond.methodLink RX2 50 yX2_turn, Cond.instanceMethod yX2_turn, Cond.selects RX2 yX2_turn yX2_turn, Cond.code yX2_turn cX2_turn 7 (some .long), Cond.methodLink RX2 54 yX2_signOf, Cond.static yX2_signOf, Cond.code yX2_signOf cX2_signOf 2 (some .int), Cond.methodLink RX1 62 yX1_joinPieces, Cond.instanceMethod yX1_joinPieces, Cond.selects RX1 yX1_joinPieces yX1_joinPieces, Cond.code yX1_joinPieces cX1_joinPieces 2 none, Cond.fieldLink RX1 25 "PlaneFaces$Rounds" "root" "[I", Cond.methodLink RX1 85 yX1_joinRoots, Cond.instanceMethod yX1_joinRoots, Cond.selects RX1 yX1_joinRoots yX1_joinRoots, Cond.code yX1_joinRoots cX1_joinRoots 4 none, Cond.methodLink RX1 89 Lib.Math.max.name, Cond.static Lib.Math.max.name, Cond.initialized "java/lang/Math", Cond.code Lib.Math.max.name Lib.Math.max.code 2 (some .int), Cond.methodLink RX1 94 Lib.Math.min.name, Cond.static Lib.Math.min.name]
def wsL_locate_r4 : List Cond := [Cond.code Lib.Math.min.name Lib.Math.min.code 2 (some .int), Cond.methodLink RX1 65 yX1_numberPieces, Cond.instanceMethod yX1_numberPieces, Cond.selects RX1 yX1_numberPieces yX1_numberPieces, Cond.code yX1_numberPieces cX1_numberPieces 2 none, Cond.fieldLink RX1 31 "PlaneFaces$Rounds" "pieces" "I", Cond.fieldLink RX1 28 "PlaneFaces$Rounds" "pieceOf" "[I", Cond.methodLink RX1 68 yX1_walkRounds, Cond.instanceMethod yX1_walkRounds, Cond.selects RX1 yX1_walkRounds yX1_walkRounds, Cond.code yX1_walkRounds cX1_walkRounds 2 none, Cond.fieldLink RX1 35 "PlaneFaces$Rounds" "roundOf" "[I", Cond.fieldLink RX1 48 "PlaneFaces$Rounds" "size" "I", Cond.methodLink RX1 97 yJ7_fill_53178, Cond.static yJ7_fill_53178, Cond.initialized RJ7, Cond.code yJ7_fill_53178 cJ7_fill_53178 4 none, Cond.methodLink RX1 103 yX1_walk, Cond.instanceMethod yX1_walk, Cond.selects RX1 yX1_walk yX1_walk, Cond.code yX1_walk cX1_walk 4 none, Cond.fieldLink RX1 38 "PlaneFaces$Rounds" "start" "[I", Cond.fieldLink RX1 41 "PlaneFaces$Rounds" "twice" "[J", Cond.methodLink RX1 107 yX2_sweep]
def wsL_locate_r5 : List Cond := [Cond.instanceMethod yX2_sweep, Cond.selects RX2 yX2_sweep yX2_sweep, Cond.code yX2_sweep cX2_sweep 2 (some .long), Cond.methodLink RX3 163 yX0_settle, Cond.instanceMethod yX0_settle, Cond.selects RX0 yX0_settle yX0_settle, Cond.initialized RX0, Cond.code yX0_settle cX0_settle 2 none, Cond.fieldLink RX0 12 "PlaneFaces$Faces" "rounds" "LPlaneFaces$Rounds;", Cond.fieldLink RX0 49 "PlaneFaces$Rounds" "size" "I", Cond.fieldLink RX0 23 "PlaneFaces$Faces" "home" "[I", Cond.fieldLink RX0 33 "PlaneFaces$Faces" "outside" "[I", Cond.fieldLink RX0 30 "PlaneFaces$Faces" "faceOf" "[I", Cond.fieldLink RX0 54 "PlaneFaces$Rounds" "start" "[I", Cond.methodLink RX0 43 yX0_findHomes, Cond.instanceMethod yX0_findHomes, Cond.selects RX0 yX0_findHomes yX0_findHomes, Cond.code yX0_findHomes cX0_findHomes 3 none, Cond.fieldLink RX0 57 "PlaneFaces$Rounds" "twice" "[J", Cond.fieldLink RX0 22 "PlaneFaces$Faces" "segments" "LPlaneFaces$Segments;", Cond.fieldLink RX0 61 "PlaneFaces$Segments" "x" "[I", Cond.fieldLink RX0 66 "PlaneFaces$Segments" "y" "[I", Cond.methodLink RX0 50 yX1_pieceOfRound, Cond.instanceMethod yX1_pieceOfRound]
def wsL_locate_r6 : List Cond := [Cond.selects RX1 yX1_pieceOfRound yX1_pieceOfRound, Cond.code yX1_pieceOfRound cX1_pieceOfRound 2 (some .int), Cond.methodLink RX0 69 yX1_enclosing, Cond.instanceMethod yX1_enclosing, Cond.selects RX1 yX1_enclosing yX1_enclosing, Cond.code yX1_enclosing cX1_enclosing 7 (some .int), Cond.fieldLink RX1 45 "PlaneFaces$Rounds" "odd" "[I", Cond.methodLink RX1 111 yX1_markOddRounds, Cond.instanceMethod yX1_markOddRounds, Cond.selects RX1 yX1_markOddRounds yX1_markOddRounds, Cond.code yX1_markOddRounds cX1_markOddRounds 4 none, Cond.methodLink RX1 117 yX2_roofs, Cond.instanceMethod yX2_roofs, Cond.selects RX2 yX2_roofs yX2_roofs, Cond.code yX2_roofs cX2_roofs 5 (some .boolean), Cond.methodLink RX2 58 yX2_rightward, Cond.instanceMethod yX2_rightward, Cond.selects RX2 yX2_rightward yX2_rightward, Cond.code yX2_rightward cX2_rightward 2 (some .int), Cond.methodLink RX2 46 yX2_side, Cond.instanceMethod yX2_side, Cond.selects RX2 yX2_side yX2_side, Cond.code yX2_side cX2_side 8 (some .long), Cond.methodLink RX1 114 yX1_pieceOfRound]
def wsL_locate_r7 : List Cond := [Cond.methodLink RX0 46 yX0_numberFaces, Cond.instanceMethod yX0_numberFaces, Cond.selects RX0 yX0_numberFaces yX0_numberFaces, Cond.code yX0_numberFaces cX0_numberFaces 3 none, Cond.fieldLink RX0 27 "PlaneFaces$Faces" "number" "[I", Cond.fieldLink RX0 39 "PlaneFaces$Faces" "size" "I", Cond.fieldLink RX0 79 "PlaneFaces$Segments" "used" "[Z", Cond.fieldLink RX0 83 "PlaneFaces$Rounds" "roundOf" "[I", Cond.methodLink RX0 73 yJ7_fill_53178, Cond.methodLink RX0 86 yX0_faceWithin, Cond.instanceMethod yX0_faceWithin, Cond.selects RX0 yX0_faceWithin yX0_faceWithin, Cond.code yX0_faceWithin cX0_faceWithin 2 (some .int), Cond.methodLink RX3 140 yX2_leastHalfAt, Cond.methodLink RX3 144 yX2_segmentThrough, Cond.instanceMethod yX2_segmentThrough, Cond.selects RX2 yX2_segmentThrough yX2_segmentThrough, Cond.code yX2_segmentThrough cX2_segmentThrough 4 (some .int), Cond.methodLink RX2 36 yX2_holds, Cond.instanceMethod yX2_holds, Cond.selects RX2 yX2_holds yX2_holds, Cond.code yX2_holds cX2_holds 8 (some .boolean), Cond.methodLink RX3 147 yX1_enclosing, Cond.methodLink RX3 151 yX0_faceWithin]
def wsL_locate : List Cond := .codeWith yL_locate cL_locate 5 (some .int) [(0, 10, 13, 13)] :: ((wsL_locate_r1 ++ (wsL_locate_r2 ++ (wsL_locate_r3 ++ (wsL_locate_r4 ++ (wsL_locate_r5 ++ (wsL_locate_r6 ++ wsL_locate_r7)))))) ++ wsX30 ++ wsX10 ++ wsX20 ++ wsX00 ++ (vx_atS RX3 40 "java/lang/IllegalArgumentException" ["java/lang/RuntimeException", "java/lang/Exception"]).filter goodWord)
def wsL_above_r1 : List Cond := [Cond.classLink RL 13 "java/lang/IllegalArgumentException", Cond.methodLink RL 46 yX3_above, Cond.instanceMethod yX3_above, Cond.selects RX3 yX3_above yX3_above, Cond.initialized RX3, Cond.code yX3_above cX3_above 3 (some .int), Cond.fieldLink RX3 27 "PlaneFaces" "segments" "LPlaneFaces$Segments;", Cond.methodLink RX3 32 yX3_requirePlace, Cond.static yX3_requirePlace, Cond.code yX3_requirePlace cX3_requirePlace 2 none, Cond.classLink RX3 36 "java/lang/IllegalArgumentException", Cond.initialized "java/lang/IllegalArgumentException", Cond.methodLink RX3 154 yX2_firstUpFrom, Cond.instanceMethod yX2_firstUpFrom, Cond.selects RX2 yX2_firstUpFrom yX2_firstUpFrom, Cond.initialized RX2, Cond.code yX2_firstUpFrom cX2_firstUpFrom 13 (some .int), Cond.fieldLink RX2 18 "PlaneFaces$Segments" "used" "[Z", Cond.methodLink RX2 62 yX2_reachesAbove, Cond.instanceMethod yX2_reachesAbove, Cond.selects RX2 yX2_reachesAbove yX2_reachesAbove, Cond.code yX2_reachesAbove cX2_reachesAbove 5 (some .boolean), Cond.fieldLink RX2 9 "PlaneFaces$Segments" "x" "[I", Cond.fieldLink RX2 15 "PlaneFaces$Segments" "y" "[I"]
def wsL_above_r2 : List Cond := [Cond.methodLink RX2 72 Lib.Math.max.name, Cond.static Lib.Math.max.name, Cond.initialized "java/lang/Math", Cond.code Lib.Math.max.name Lib.Math.max.code 2 (some .int), Cond.methodLink RX2 58 yX2_rightward, Cond.instanceMethod yX2_rightward, Cond.selects RX2 yX2_rightward yX2_rightward, Cond.code yX2_rightward cX2_rightward 2 (some .int), Cond.methodLink RX2 46 yX2_side, Cond.instanceMethod yX2_side, Cond.selects RX2 yX2_side yX2_side, Cond.code yX2_side cX2_side 8 (some .long), Cond.methodLink RX2 65 yX2_height, Cond.instanceMethod yX2_height, Cond.selects RX2 yX2_height yX2_height, Cond.code yX2_height cX2_height 9 (some .long), Cond.methodLink RX2 78 Lib.Math.min.name, Cond.static Lib.Math.min.name, Cond.code Lib.Math.min.name Lib.Math.min.code 2 (some .int), Cond.methodLink RX2 68 yX2_width, Cond.instanceMethod yX2_width, Cond.selects RX2 yX2_width yX2_width, Cond.code yX2_width cX2_width 2 (some .long), Cond.methodLink RX2 81 Lib.Math.abs.name]
def wsL_above_r3 : List Cond := [Cond.static Lib.Math.abs.name, Cond.code Lib.Math.abs.name Lib.Math.abs.code 1 (some .int)]
def wsL_above : List Cond := .codeWith yL_above cL_above 5 (some .int) [(0, 10, 13, 13)] :: ((wsL_above_r1 ++ (wsL_above_r2 ++ wsL_above_r3)) ++ wsX30 ++ wsX20 ++ (vx_atS RX3 40 "java/lang/IllegalArgumentException" ["java/lang/RuntimeException", "java/lang/Exception"]).filter goodWord)
def wsL_across_r1 : List Cond := [Cond.classLink RL 21 "java/lang/IndexOutOfBoundsException", Cond.methodLink RL 49 yX3_across, Cond.instanceMethod yX3_across, Cond.selects RX3 yX3_across yX3_across, Cond.initialized RX3, Cond.code yX3_across cX3_across 3 (some .int), Cond.fieldLink RX3 12 "PlaneFaces" "faces" "LPlaneFaces$Faces;", Cond.methodLink RX3 79 yX3_refresh, Cond.instanceMethod yX3_refresh, Cond.selects RX3 yX3_refresh yX3_refresh, Cond.code yX3_refresh cX3_refresh 1 none, Cond.fieldLink RX3 28 "PlaneFaces" "stale" "Z", Cond.fieldLink RX3 20 "PlaneFaces" "rounds" "LPlaneFaces$Rounds;", Cond.methodLink RX3 160 yX1_trace, Cond.instanceMethod yX1_trace, Cond.selects RX1 yX1_trace yX1_trace, Cond.initialized RX1, Cond.code yX1_trace cX1_trace 2 none, Cond.fieldLink RX1 22 "PlaneFaces$Rounds" "following" "[I", Cond.fieldLink RX1 12 "PlaneFaces$Rounds" "segments" "LPlaneFaces$Segments;", Cond.fieldLink RX1 54 "PlaneFaces$Segments" "used" "[Z", Cond.methodLink RX1 51 yX1_findCorners, Cond.instanceMethod yX1_findCorners, Cond.selects RX1 yX1_findCorners yX1_findCorners]
def wsL_across_r2 : List Cond := [Cond.code yX1_findCorners cX1_findCorners 2 none, Cond.fieldLink RX1 18 "PlaneFaces$Rounds" "corner" "[I", Cond.fieldLink RX1 71 "PlaneFaces$Segments" "x" "[I", Cond.fieldLink RX1 74 "PlaneFaces$Segments" "y" "[I", Cond.methodLink RX1 77 yX2_leastHalfAt, Cond.instanceMethod yX2_leastHalfAt, Cond.selects RX2 yX2_leastHalfAt yX2_leastHalfAt, Cond.initialized RX2, Cond.code yX2_leastHalfAt cX2_leastHalfAt 4 (some .int), Cond.fieldLink RX2 18 "PlaneFaces$Segments" "used" "[Z", Cond.fieldLink RX2 9 "PlaneFaces$Segments" "x" "[I", Cond.fieldLink RX2 15 "PlaneFaces$Segments" "y" "[I", Cond.methodLink RX1 58 yX1_firstClockwise, Cond.instanceMethod yX1_firstClockwise, Cond.selects RX1 yX1_firstClockwise yX1_firstClockwise, Cond.code yX1_firstClockwise cX1_firstClockwise 5 (some .int), Cond.methodLink RX1 81 yX2_sooner, Cond.instanceMethod yX2_sooner, Cond.selects RX2 yX2_sooner yX2_sooner, Cond.code yX2_sooner cX2_sooner 6 (some .boolean), Cond.methodLink RX2 50 yX2_turn, Cond.instanceMethod yX2_turn, Cond.selects RX2 yX2_turn yX2_turn, Cond.code yX2_turn cX2_turn 7 (some .long)]
def wsL_across_r3 : List Cond := [Cond.methodLink RX2 54 yX2_signOf, Cond.static yX2_signOf, Cond.code yX2_signOf cX2_signOf 2 (some .int), Cond.methodLink RX1 62 yX1_joinPieces, Cond.instanceMethod yX1_joinPieces, Cond.selects RX1 yX1_joinPieces yX1_joinPieces, Cond.code yX1_joinPieces cX1_joinPieces 2 none, Cond.fieldLink RX1 25 "PlaneFaces$Rounds" "root" "[I", Cond.methodLink RX1 85 yX1_joinRoots, Cond.instanceMethod yX1_joinRoots, Cond.selects RX1 yX1_joinRoots yX1_joinRoots, Cond.code yX1_joinRoots cX1_joinRoots 4 none, Cond.methodLink RX1 89 Lib.Math.max.name, Cond.static Lib.Math.max.name, Cond.initialized "java/lang/Math", Cond.code Lib.Math.max.name Lib.Math.max.code 2 (some .int), Cond.methodLink RX1 94 Lib.Math.min.name, Cond.static Lib.Math.min.name, Cond.code Lib.Math.min.name Lib.Math.min.code 2 (some .int), Cond.methodLink RX1 65 yX1_numberPieces, Cond.instanceMethod yX1_numberPieces, Cond.selects RX1 yX1_numberPieces yX1_numberPieces, Cond.code yX1_numberPieces cX1_numberPieces 2 none, Cond.fieldLink RX1 31 "PlaneFaces$Rounds" "pieces" "I"]
def wsL_across_r4 : List Cond := [Cond.fieldLink RX1 28 "PlaneFaces$Rounds" "pieceOf" "[I", Cond.methodLink RX1 68 yX1_walkRounds, Cond.instanceMethod yX1_walkRounds, Cond.selects RX1 yX1_walkRounds yX1_walkRounds, Cond.code yX1_walkRounds cX1_walkRounds 2 none, Cond.fieldLink RX1 35 "PlaneFaces$Rounds" "roundOf" "[I", Cond.fieldLink RX1 48 "PlaneFaces$Rounds" "size" "I", Cond.methodLink RX1 97 yJ7_fill_53178, Cond.static yJ7_fill_53178, Cond.initialized RJ7, Cond.code yJ7_fill_53178 cJ7_fill_53178 4 none, Cond.methodLink RX1 103 yX1_walk, Cond.instanceMethod yX1_walk, Cond.selects RX1 yX1_walk yX1_walk, Cond.code yX1_walk cX1_walk 4 none, Cond.fieldLink RX1 38 "PlaneFaces$Rounds" "start" "[I", Cond.fieldLink RX1 41 "PlaneFaces$Rounds" "twice" "[J", Cond.methodLink RX1 107 yX2_sweep, Cond.instanceMethod yX2_sweep, Cond.selects RX2 yX2_sweep yX2_sweep, Cond.code yX2_sweep cX2_sweep 2 (some .long), Cond.methodLink RX3 163 yX0_settle, Cond.instanceMethod yX0_settle, Cond.selects RX0 yX0_settle yX0_settle]
def wsL_across_r5 : List Cond := [Cond.initialized RX0, Cond.code yX0_settle cX0_settle 2 none, Cond.fieldLink RX0 12 "PlaneFaces$Faces" "rounds" "LPlaneFaces$Rounds;", Cond.fieldLink RX0 49 "PlaneFaces$Rounds" "size" "I", Cond.fieldLink RX0 23 "PlaneFaces$Faces" "home" "[I", Cond.fieldLink RX0 33 "PlaneFaces$Faces" "outside" "[I", Cond.fieldLink RX0 30 "PlaneFaces$Faces" "faceOf" "[I", Cond.fieldLink RX0 54 "PlaneFaces$Rounds" "start" "[I", Cond.methodLink RX0 43 yX0_findHomes, Cond.instanceMethod yX0_findHomes, Cond.selects RX0 yX0_findHomes yX0_findHomes, Cond.code yX0_findHomes cX0_findHomes 3 none, Cond.fieldLink RX0 57 "PlaneFaces$Rounds" "twice" "[J", Cond.fieldLink RX0 22 "PlaneFaces$Faces" "segments" "LPlaneFaces$Segments;", Cond.fieldLink RX0 61 "PlaneFaces$Segments" "x" "[I", Cond.fieldLink RX0 66 "PlaneFaces$Segments" "y" "[I", Cond.methodLink RX0 50 yX1_pieceOfRound, Cond.instanceMethod yX1_pieceOfRound, Cond.selects RX1 yX1_pieceOfRound yX1_pieceOfRound, Cond.code yX1_pieceOfRound cX1_pieceOfRound 2 (some .int), Cond.methodLink RX0 69 yX1_enclosing, Cond.instanceMethod yX1_enclosing, Cond.selects RX1 yX1_enclosing yX1_enclosing, Cond.code yX1_enclosing cX1_enclosing 7 (some .int)]
def wsL_across_r6 : List Cond := [Cond.fieldLink RX1 45 "PlaneFaces$Rounds" "odd" "[I", Cond.methodLink RX1 111 yX1_markOddRounds, Cond.instanceMethod yX1_markOddRounds, Cond.selects RX1 yX1_markOddRounds yX1_markOddRounds, Cond.code yX1_markOddRounds cX1_markOddRounds 4 none, Cond.methodLink RX1 117 yX2_roofs, Cond.instanceMethod yX2_roofs, Cond.selects RX2 yX2_roofs yX2_roofs, Cond.code yX2_roofs cX2_roofs 5 (some .boolean), Cond.methodLink RX2 58 yX2_rightward, Cond.instanceMethod yX2_rightward, Cond.selects RX2 yX2_rightward yX2_rightward, Cond.code yX2_rightward cX2_rightward 2 (some .int), Cond.methodLink RX2 46 yX2_side, Cond.instanceMethod yX2_side, Cond.selects RX2 yX2_side yX2_side, Cond.code yX2_side cX2_side 8 (some .long), Cond.methodLink RX1 114 yX1_pieceOfRound, Cond.methodLink RX0 46 yX0_numberFaces, Cond.instanceMethod yX0_numberFaces, Cond.selects RX0 yX0_numberFaces yX0_numberFaces, Cond.code yX0_numberFaces cX0_numberFaces 3 none, Cond.fieldLink RX0 27 "PlaneFaces$Faces" "number" "[I", Cond.fieldLink RX0 39 "PlaneFaces$Faces" "size" "I"]
def wsL_across_r7 : List Cond := [Cond.fieldLink RX0 79 "PlaneFaces$Segments" "used" "[Z", Cond.fieldLink RX0 83 "PlaneFaces$Rounds" "roundOf" "[I", Cond.methodLink RX0 73 yJ7_fill_53178, Cond.methodLink RX0 86 yX0_faceWithin, Cond.instanceMethod yX0_faceWithin, Cond.selects RX0 yX0_faceWithin yX0_faceWithin, Cond.code yX0_faceWithin cX0_faceWithin 2 (some .int), Cond.methodLink RX3 120 yX3_requireFace, Cond.instanceMethod yX3_requireFace, Cond.selects RX3 yX3_requireFace yX3_requireFace, Cond.code yX3_requireFace cX3_requireFace 2 none, Cond.classLink RX3 112 "java/lang/IndexOutOfBoundsException", Cond.initialized "java/lang/IndexOutOfBoundsException", Cond.fieldLink RX3 85 "PlaneFaces$Faces" "size" "I", Cond.methodLink RX3 157 yX0_crossings, Cond.instanceMethod yX0_crossings, Cond.selects RX0 yX0_crossings yX0_crossings, Cond.code yX0_crossings cX0_crossings 5 (some .int), Cond.fieldLink RX0 36 "PlaneFaces$Faces" "steps" "[I", Cond.methodLink RX0 92 yX0_cross, Cond.instanceMethod yX0_cross, Cond.selects RX0 yX0_cross yX0_cross, Cond.code yX0_cross cX0_cross 4 none]
def wsL_across : List Cond := .codeWith yL_across cL_across 5 (some .int) [(0, 10, 13, 21)] :: ((wsL_across_r1 ++ (wsL_across_r2 ++ (wsL_across_r3 ++ (wsL_across_r4 ++ (wsL_across_r5 ++ (wsL_across_r6 ++ wsL_across_r7)))))) ++ wsX30 ++ wsX10 ++ wsX20 ++ wsX00 ++ (vx_atS RX3 116 "java/lang/IndexOutOfBoundsException" ["java/lang/RuntimeException", "java/lang/Exception"]).filter goodWord)
def wsL_law0_r1 : List Cond := [Cond.classLink RL 8 RX3, Cond.instantiable RX3 4, Cond.initialized RX3, Cond.classLink RL 53 RX4, Cond.instantiable RX4 16, Cond.initialized RX4, Cond.arrayClass .long, Cond.methodLink RL 52 yX3_init, Cond.instanceMethod yX3_init, Cond.code yX3_init cX3_init 1 none, Cond.methodLink RX3 3 objectInit, Cond.instanceMethod objectInit, Cond.code objectInit ⟨#[0xb1]⟩ 1 none, Cond.classLink RX3 9 RX0, Cond.instantiable RX0 8, Cond.initialized RX0, Cond.fieldLink RX3 12 "PlaneFaces" "faces" "LPlaneFaces$Faces;", Cond.fieldLink RX3 16 "PlaneFaces$Faces" "rounds" "LPlaneFaces$Rounds;", Cond.fieldLink RX3 20 "PlaneFaces" "rounds" "LPlaneFaces$Rounds;", Cond.fieldLink RX3 21 "PlaneFaces$Rounds" "segments" "LPlaneFaces$Segments;", Cond.fieldLink RX3 27 "PlaneFaces" "segments" "LPlaneFaces$Segments;", Cond.fieldLink RX3 28 "PlaneFaces" "stale" "Z", Cond.instanceMethod yX0_init, Cond.code yX0_init cX0_init 1 none]
def wsL_law0_r2 : List Cond := [Cond.methodLink RX0 3 objectInit, Cond.classLink RX0 9 RX1, Cond.instantiable RX1 11, Cond.initialized RX1, Cond.fieldLink RX0 12 "PlaneFaces$Faces" "rounds" "LPlaneFaces$Rounds;", Cond.fieldLink RX0 18 "PlaneFaces$Rounds" "segments" "LPlaneFaces$Segments;", Cond.fieldLink RX0 22 "PlaneFaces$Faces" "segments" "LPlaneFaces$Segments;", Cond.arrayClass .int, Cond.fieldLink RX0 23 "PlaneFaces$Faces" "home" "[I", Cond.fieldLink RX0 27 "PlaneFaces$Faces" "number" "[I", Cond.fieldLink RX0 30 "PlaneFaces$Faces" "faceOf" "[I", Cond.fieldLink RX0 33 "PlaneFaces$Faces" "outside" "[I", Cond.fieldLink RX0 36 "PlaneFaces$Faces" "steps" "[I", Cond.fieldLink RX0 39 "PlaneFaces$Faces" "size" "I", Cond.instanceMethod yX1_init, Cond.code yX1_init cX1_init 1 none, Cond.methodLink RX1 3 objectInit, Cond.classLink RX1 9 RX2, Cond.instantiable RX2 4, Cond.initialized RX2, Cond.fieldLink RX1 12 "PlaneFaces$Rounds" "segments" "LPlaneFaces$Segments;", Cond.fieldLink RX1 18 "PlaneFaces$Rounds" "corner" "[I", Cond.fieldLink RX1 22 "PlaneFaces$Rounds" "following" "[I", Cond.fieldLink RX1 25 "PlaneFaces$Rounds" "root" "[I"]
def wsL_law0_r3 : List Cond := [Cond.fieldLink RX1 28 "PlaneFaces$Rounds" "pieceOf" "[I", Cond.fieldLink RX1 31 "PlaneFaces$Rounds" "pieces" "I", Cond.fieldLink RX1 35 "PlaneFaces$Rounds" "roundOf" "[I", Cond.fieldLink RX1 38 "PlaneFaces$Rounds" "start" "[I", Cond.fieldLink RX1 41 "PlaneFaces$Rounds" "twice" "[J", Cond.fieldLink RX1 45 "PlaneFaces$Rounds" "odd" "[I", Cond.fieldLink RX1 48 "PlaneFaces$Rounds" "size" "I", Cond.instanceMethod yX2_init, Cond.code yX2_init cX2_init 1 none, Cond.methodLink RX2 3 objectInit, Cond.fieldLink RX2 9 "PlaneFaces$Segments" "x" "[I", Cond.fieldLink RX2 15 "PlaneFaces$Segments" "y" "[I", Cond.arrayClass .boolean, Cond.fieldLink RX2 18 "PlaneFaces$Segments" "used" "[Z", Cond.fieldLink RX2 22 "PlaneFaces$Segments" "size" "I", Cond.methodLink RL 55 yX4_init, Cond.instanceMethod yX4_init, Cond.code yX4_init cX4_init 1 none, Cond.methodLink RX4 1 objectInit, Cond.fieldLink RX4 7 "PlaneFacesModel" "isThere" "[Z", Cond.fieldLink RX4 13 "PlaneFacesModel" "xs" "[I", Cond.fieldLink RX4 17 "PlaneFacesModel" "ys" "[I", Cond.fieldLink RX4 20 "PlaneFacesModel" "nexts" "[I", Cond.fieldLink RX4 23 "PlaneFacesModel" "pieceOf" "[I"]
def wsL_law0_r4 : List Cond := [Cond.fieldLink RX4 26 "PlaneFacesModel" "roundOf" "[I", Cond.fieldLink RX4 29 "PlaneFacesModel" "firsts" "[I", Cond.fieldLink RX4 32 "PlaneFacesModel" "areas" "[J", Cond.fieldLink RX4 36 "PlaneFacesModel" "faceOf" "[I", Cond.fieldLink RX4 39 "PlaneFacesModel" "numbers" "[I", Cond.fieldLink RX4 42 "PlaneFacesModel" "steps" "[I", Cond.methodLink RL 56 yL_add, Cond.static yL_add, Cond.initialized RL, Cond.codeWith yL_add cL_add 7 (some .int) [(0, 14, 17, 13), (0, 14, 21, 15)], Cond.classLink RL 13 "java/lang/IllegalArgumentException", Cond.classLink RL 15 "java/lang/IllegalStateException", Cond.methodLink RL 7 yX3_add, Cond.instanceMethod yX3_add, Cond.selects RX3 yX3_add yX3_add, Cond.code yX3_add cX3_add 6 (some .int), Cond.classLink RX3 36 "java/lang/IllegalArgumentException", Cond.initialized "java/lang/IllegalArgumentException", Cond.classLink RX3 49 "java/lang/IllegalStateException", Cond.initialized "java/lang/IllegalStateException", Cond.methodLink RX3 32 yX3_requirePlace, Cond.static yX3_requirePlace, Cond.code yX3_requirePlace cX3_requirePlace 2 none, Cond.methodLink RX3 43 yX2_leastFree]
def wsL_law0_r5 : List Cond := [Cond.instanceMethod yX2_leastFree, Cond.selects RX2 yX2_leastFree yX2_leastFree, Cond.code yX2_leastFree cX2_leastFree 2 (some .int), Cond.methodLink RX3 54 yX2_draw, Cond.instanceMethod yX2_draw, Cond.selects RX2 yX2_draw yX2_draw, Cond.code yX2_draw cX2_draw 6 none, Cond.methodLink RX3 58 yX2_clashes, Cond.instanceMethod yX2_clashes, Cond.selects RX2 yX2_clashes yX2_clashes, Cond.code yX2_clashes cX2_clashes 3 (some .boolean), Cond.methodLink RX2 26 yX2_touches, Cond.instanceMethod yX2_touches, Cond.selects RX2 yX2_touches yX2_touches, Cond.code yX2_touches cX2_touches 3 (some .boolean), Cond.methodLink RX2 36 yX2_holds, Cond.instanceMethod yX2_holds, Cond.selects RX2 yX2_holds yX2_holds, Cond.code yX2_holds cX2_holds 8 (some .boolean), Cond.methodLink RX2 46 yX2_side, Cond.instanceMethod yX2_side, Cond.selects RX2 yX2_side yX2_side, Cond.code yX2_side cX2_side 8 (some .long), Cond.methodLink RX2 30 yX2_sameEnds]
def wsL_law0_r6 : List Cond := [Cond.instanceMethod yX2_sameEnds, Cond.selects RX2 yX2_sameEnds yX2_sameEnds, Cond.code yX2_sameEnds cX2_sameEnds 3 (some .boolean), Cond.methodLink RX2 40 yX2_sameBegin, Cond.instanceMethod yX2_sameBegin, Cond.selects RX2 yX2_sameBegin yX2_sameBegin, Cond.code yX2_sameBegin cX2_sameBegin 3 (some .boolean), Cond.methodLink RX2 33 yX2_crosses, Cond.instanceMethod yX2_crosses, Cond.selects RX2 yX2_crosses yX2_crosses, Cond.code yX2_crosses cX2_crosses 3 (some .boolean), Cond.methodLink RX2 43 yX2_parts, Cond.instanceMethod yX2_parts, Cond.selects RX2 yX2_parts yX2_parts, Cond.code yX2_parts cX2_parts 7 (some .boolean), Cond.methodLink RX3 62 yX2_keep, Cond.instanceMethod yX2_keep, Cond.selects RX2 yX2_keep yX2_keep, Cond.code yX2_keep cX2_keep 2 none, Cond.methodLink RL 61 yX4_add, Cond.instanceMethod yX4_add, Cond.selects RX4 yX4_add yX4_add, Cond.code yX4_add cX4_add 8 (some .int), Cond.fieldLink RX4 76 "PlaneFacesModel" "isCurrent" "Z"]
def wsL_law0_r7 : List Cond := [Cond.methodLink RX4 65 yX4_isIn, Cond.static yX4_isIn, Cond.code yX4_isIn cX4_isIn 1 (some .boolean), Cond.methodLink RX4 69 yX4_refused, Cond.instanceMethod yX4_refused, Cond.selects RX4 yX4_refused yX4_refused, Cond.code yX4_refused cX4_refused 2 (some .boolean), Cond.fieldLink RX4 45 "PlaneFacesModel" "refusal" "I", Cond.methodLink RX4 72 yX4_meets, Cond.instanceMethod yX4_meets, Cond.selects RX4 yX4_meets yX4_meets, Cond.code yX4_meets cX4_meets 10 (some .boolean), Cond.methodLink RX4 57 yX4_isEnd, Cond.instanceMethod yX4_isEnd, Cond.selects RX4 yX4_isEnd yX4_isEnd, Cond.code yX4_isEnd cX4_isEnd 4 (some .boolean), Cond.methodLink RX4 61 yX4_isOn, Cond.static yX4_isOn, Cond.code yX4_isOn cX4_isOn 9 (some .boolean), Cond.methodLink RX4 53 yX4_side, Cond.static yX4_side, Cond.code yX4_side cX4_side 6 (some .int), Cond.methodLink RX4 49 yX4_sign, Cond.static yX4_sign]
def wsL_law0_r8 : List Cond := [Cond.code yX4_sign cX4_sign 2 (some .int), Cond.methodLink RL 62 yX4_thrown, Cond.instanceMethod yX4_thrown, Cond.selects RX4 yX4_thrown yX4_thrown, Cond.code yX4_thrown cX4_thrown 1 (some .int), Cond.methodLink RL 66 yX3_remove, Cond.instanceMethod yX3_remove, Cond.selects RX3 yX3_remove yX3_remove, Cond.code yX3_remove cX3_remove 2 (some .boolean), Cond.methodLink RX3 66 yX2_has, Cond.instanceMethod yX2_has, Cond.selects RX2 yX2_has yX2_has, Cond.code yX2_has cX2_has 2 (some .boolean), Cond.methodLink RX3 69 yX2_drop, Cond.instanceMethod yX2_drop, Cond.selects RX2 yX2_drop yX2_drop, Cond.code yX2_drop cX2_drop 2 none, Cond.methodLink RL 70 yX4_remove, Cond.instanceMethod yX4_remove, Cond.selects RX4 yX4_remove yX4_remove, Cond.code yX4_remove cX4_remove 3 (some .boolean), Cond.methodLink RL 71 yX3_clear, Cond.instanceMethod yX3_clear, Cond.selects RX3 yX3_clear yX3_clear]
def wsL_law0_r9 : List Cond := [Cond.code yX3_clear cX3_clear 2 (some .int), Cond.fieldLink RX3 72 "PlaneFaces$Segments" "size" "I", Cond.methodLink RX3 76 yX2_dropAll, Cond.instanceMethod yX2_dropAll, Cond.selects RX2 yX2_dropAll yX2_dropAll, Cond.code yX2_dropAll cX2_dropAll 2 none, Cond.methodLink RL 74 yX4_clear, Cond.instanceMethod yX4_clear, Cond.selects RX4 yX4_clear yX4_clear, Cond.code yX4_clear cX4_clear 3 (some .int), Cond.methodLink RL 75 yX3_count, Cond.instanceMethod yX3_count, Cond.selects RX3 yX3_count yX3_count, Cond.code yX3_count cX3_count 2 (some .int), Cond.fieldLink RX3 85 "PlaneFaces$Faces" "size" "I", Cond.fieldLink RX3 86 "PlaneFaces$Rounds" "pieces" "I", Cond.fieldLink RX3 92 "PlaneFaces$Rounds" "size" "I", Cond.methodLink RX3 79 yX3_refresh, Cond.instanceMethod yX3_refresh, Cond.selects RX3 yX3_refresh yX3_refresh, Cond.code yX3_refresh cX3_refresh 1 none, Cond.methodLink RX3 160 yX1_trace, Cond.instanceMethod yX1_trace, Cond.selects RX1 yX1_trace yX1_trace]
def wsL_law0_r10 : List Cond := [Cond.code yX1_trace cX1_trace 2 none, Cond.fieldLink RX1 54 "PlaneFaces$Segments" "used" "[Z", Cond.methodLink RX1 51 yX1_findCorners, Cond.instanceMethod yX1_findCorners, Cond.selects RX1 yX1_findCorners yX1_findCorners, Cond.code yX1_findCorners cX1_findCorners 2 none, Cond.fieldLink RX1 71 "PlaneFaces$Segments" "x" "[I", Cond.fieldLink RX1 74 "PlaneFaces$Segments" "y" "[I", Cond.methodLink RX1 77 yX2_leastHalfAt, Cond.instanceMethod yX2_leastHalfAt, Cond.selects RX2 yX2_leastHalfAt yX2_leastHalfAt, Cond.code yX2_leastHalfAt cX2_leastHalfAt 4 (some .int), Cond.methodLink RX1 58 yX1_firstClockwise, Cond.instanceMethod yX1_firstClockwise, Cond.selects RX1 yX1_firstClockwise yX1_firstClockwise, Cond.code yX1_firstClockwise cX1_firstClockwise 5 (some .int), Cond.methodLink RX1 81 yX2_sooner, Cond.instanceMethod yX2_sooner, Cond.selects RX2 yX2_sooner yX2_sooner, Cond.code yX2_sooner cX2_sooner 6 (some .boolean), Cond.methodLink RX2 50 yX2_turn, Cond.instanceMethod yX2_turn, Cond.selects RX2 yX2_turn yX2_turn, Cond.code yX2_turn cX2_turn 7 (some .long)]
def wsL_law0_r11 : List Cond := [Cond.methodLink RX2 54 yX2_signOf, Cond.static yX2_signOf, Cond.code yX2_signOf cX2_signOf 2 (some .int), Cond.methodLink RX1 62 yX1_joinPieces, Cond.instanceMethod yX1_joinPieces, Cond.selects RX1 yX1_joinPieces yX1_joinPieces, Cond.code yX1_joinPieces cX1_joinPieces 2 none, Cond.methodLink RX1 85 yX1_joinRoots, Cond.instanceMethod yX1_joinRoots, Cond.selects RX1 yX1_joinRoots yX1_joinRoots, Cond.code yX1_joinRoots cX1_joinRoots 4 none, Cond.methodLink RX1 89 Lib.Math.max.name, Cond.static Lib.Math.max.name, Cond.initialized "java/lang/Math", Cond.code Lib.Math.max.name Lib.Math.max.code 2 (some .int), Cond.methodLink RX1 94 Lib.Math.min.name, Cond.static Lib.Math.min.name, Cond.code Lib.Math.min.name Lib.Math.min.code 2 (some .int), Cond.methodLink RX1 65 yX1_numberPieces, Cond.instanceMethod yX1_numberPieces, Cond.selects RX1 yX1_numberPieces yX1_numberPieces, Cond.code yX1_numberPieces cX1_numberPieces 2 none, Cond.methodLink RX1 68 yX1_walkRounds, Cond.instanceMethod yX1_walkRounds]
def wsL_law0_r12 : List Cond := [Cond.selects RX1 yX1_walkRounds yX1_walkRounds, Cond.code yX1_walkRounds cX1_walkRounds 2 none, Cond.methodLink RX1 97 yJ7_fill_53178, Cond.static yJ7_fill_53178, Cond.initialized RJ7, Cond.code yJ7_fill_53178 cJ7_fill_53178 4 none, Cond.methodLink RX1 103 yX1_walk, Cond.instanceMethod yX1_walk, Cond.selects RX1 yX1_walk yX1_walk, Cond.code yX1_walk cX1_walk 4 none, Cond.methodLink RX1 107 yX2_sweep, Cond.instanceMethod yX2_sweep, Cond.selects RX2 yX2_sweep yX2_sweep, Cond.code yX2_sweep cX2_sweep 2 (some .long), Cond.methodLink RX3 163 yX0_settle, Cond.instanceMethod yX0_settle, Cond.selects RX0 yX0_settle yX0_settle, Cond.code yX0_settle cX0_settle 2 none, Cond.fieldLink RX0 49 "PlaneFaces$Rounds" "size" "I", Cond.fieldLink RX0 54 "PlaneFaces$Rounds" "start" "[I", Cond.methodLink RX0 43 yX0_findHomes, Cond.instanceMethod yX0_findHomes, Cond.selects RX0 yX0_findHomes yX0_findHomes, Cond.code yX0_findHomes cX0_findHomes 3 none]
def wsL_law0_r13 : List Cond := [Cond.fieldLink RX0 57 "PlaneFaces$Rounds" "twice" "[J", Cond.fieldLink RX0 61 "PlaneFaces$Segments" "x" "[I", Cond.fieldLink RX0 66 "PlaneFaces$Segments" "y" "[I", Cond.methodLink RX0 50 yX1_pieceOfRound, Cond.instanceMethod yX1_pieceOfRound, Cond.selects RX1 yX1_pieceOfRound yX1_pieceOfRound, Cond.code yX1_pieceOfRound cX1_pieceOfRound 2 (some .int), Cond.methodLink RX0 69 yX1_enclosing, Cond.instanceMethod yX1_enclosing, Cond.selects RX1 yX1_enclosing yX1_enclosing, Cond.code yX1_enclosing cX1_enclosing 7 (some .int), Cond.methodLink RX1 111 yX1_markOddRounds, Cond.instanceMethod yX1_markOddRounds, Cond.selects RX1 yX1_markOddRounds yX1_markOddRounds, Cond.code yX1_markOddRounds cX1_markOddRounds 4 none, Cond.methodLink RX1 117 yX2_roofs, Cond.instanceMethod yX2_roofs, Cond.selects RX2 yX2_roofs yX2_roofs, Cond.code yX2_roofs cX2_roofs 5 (some .boolean), Cond.methodLink RX2 58 yX2_rightward, Cond.instanceMethod yX2_rightward, Cond.selects RX2 yX2_rightward yX2_rightward, Cond.code yX2_rightward cX2_rightward 2 (some .int), Cond.methodLink RX1 114 yX1_pieceOfRound]
def wsL_law0_r14 : List Cond := [Cond.methodLink RX0 46 yX0_numberFaces, Cond.instanceMethod yX0_numberFaces, Cond.selects RX0 yX0_numberFaces yX0_numberFaces, Cond.code yX0_numberFaces cX0_numberFaces 3 none, Cond.fieldLink RX0 79 "PlaneFaces$Segments" "used" "[Z", Cond.fieldLink RX0 83 "PlaneFaces$Rounds" "roundOf" "[I", Cond.methodLink RX0 73 yJ7_fill_53178, Cond.methodLink RX0 86 yX0_faceWithin, Cond.instanceMethod yX0_faceWithin, Cond.selects RX0 yX0_faceWithin yX0_faceWithin, Cond.code yX0_faceWithin cX0_faceWithin 2 (some .int), Cond.methodLink RX3 82 yX1_corners, Cond.instanceMethod yX1_corners, Cond.selects RX1 yX1_corners yX1_corners, Cond.code yX1_corners cX1_corners 3 (some .int), Cond.methodLink RX3 89 yX0_bridges, Cond.instanceMethod yX0_bridges, Cond.selects RX0 yX0_bridges yX0_bridges, Cond.code yX0_bridges cX0_bridges 3 (some .int), Cond.methodLink RL 78 yX4_count, Cond.instanceMethod yX4_count, Cond.selects RX4 yX4_count yX4_count, Cond.code yX4_count cX4_count 6 (some .int), Cond.fieldLink RX4 118 "PlaneFacesModel" "faces" "I"]
def wsL_law0_r15 : List Cond := [Cond.fieldLink RX4 101 "PlaneFacesModel" "pieces" "I", Cond.fieldLink RX4 95 "PlaneFacesModel" "rounds" "I", Cond.methodLink RX4 125 yX4_make, Cond.instanceMethod yX4_make, Cond.selects RX4 yX4_make yX4_make, Cond.code yX4_make cX4_make 2 none, Cond.methodLink RX4 104 yX4_nextOf, Cond.instanceMethod yX4_nextOf, Cond.selects RX4 yX4_nextOf yX4_nextOf, Cond.code yX4_nextOf cX4_nextOf 6 (some .int), Cond.methodLink RX4 80 yX4_back, Cond.static yX4_back, Cond.code yX4_back cX4_back 1 (some .int), Cond.methodLink RX4 88 yX4_leaves, Cond.instanceMethod yX4_leaves, Cond.selects RX4 yX4_leaves yX4_leaves, Cond.code yX4_leaves cX4_leaves 4 (some .boolean), Cond.methodLink RX4 91 yX4_turned, Cond.instanceMethod yX4_turned, Cond.selects RX4 yX4_turned yX4_turned, Cond.code yX4_turned cX4_turned 5 (some .int), Cond.methodLink RX4 84 yX4_crossOf, Cond.instanceMethod yX4_crossOf, Cond.selects RX4 yX4_crossOf yX4_crossOf]
def wsL_law0_r16 : List Cond := [Cond.code yX4_crossOf cX4_crossOf 11 (some .long), Cond.methodLink RX4 107 yX4_spreadPiece, Cond.instanceMethod yX4_spreadPiece, Cond.selects RX4 yX4_spreadPiece yX4_spreadPiece, Cond.code yX4_spreadPiece cX4_spreadPiece 7 none, Cond.methodLink RX4 111 yX4_makeRound, Cond.instanceMethod yX4_makeRound, Cond.selects RX4 yX4_makeRound yX4_makeRound, Cond.code yX4_makeRound cX4_makeRound 4 none, Cond.methodLink RX4 115 yX4_number, Cond.instanceMethod yX4_number, Cond.selects RX4 yX4_number yX4_number, Cond.code yX4_number cX4_number 4 none, Cond.methodLink RX4 121 yX4_least, Cond.instanceMethod yX4_least, Cond.selects RX4 yX4_least yX4_least, Cond.code yX4_least cX4_least 7 (some .int), Cond.methodLink RX4 98 yX4_isWithin, Cond.instanceMethod yX4_isWithin, Cond.selects RX4 yX4_isWithin yX4_isWithin, Cond.code yX4_isWithin cX4_isWithin 9 (some .boolean), Cond.methodLink RX4 128 yX4_left, Cond.instanceMethod yX4_left, Cond.selects RX4 yX4_left yX4_left]
def wsL_law0_r17 : List Cond := [Cond.code yX4_left cX4_left 2 (some .int), Cond.methodLink RL 79 yL_begins, Cond.static yL_begins, Cond.codeWith yL_begins cL_begins 5 (some .int) [(0, 10, 13, 21)], Cond.classLink RL 21 "java/lang/IndexOutOfBoundsException", Cond.methodLink RL 17 yX3_begins, Cond.instanceMethod yX3_begins, Cond.selects RX3 yX3_begins yX3_begins, Cond.code yX3_begins cX3_begins 3 (some .int), Cond.fieldLink RX3 96 "PlaneFaces$Segments" "y" "[I", Cond.fieldLink RX3 100 "PlaneFaces$Segments" "x" "[I", Cond.methodLink RX3 93 yX3_requireHalf, Cond.instanceMethod yX3_requireHalf, Cond.selects RX3 yX3_requireHalf yX3_requireHalf, Cond.code yX3_requireHalf cX3_requireHalf 2 none, Cond.classLink RX3 112 "java/lang/IndexOutOfBoundsException", Cond.initialized "java/lang/IndexOutOfBoundsException", Cond.methodLink RL 82 yX4_begins, Cond.instanceMethod yX4_begins, Cond.selects RX4 yX4_begins yX4_begins, Cond.code yX4_begins cX4_begins 3 (some .int), Cond.methodLink RX4 131 yX4_isHalf, Cond.instanceMethod yX4_isHalf, Cond.selects RX4 yX4_isHalf yX4_isHalf]
def wsL_law0_r18 : List Cond := [Cond.code yX4_isHalf cX4_isHalf 2 (some .boolean), Cond.methodLink RL 83 yL_next, Cond.static yL_next, Cond.codeWith yL_next cL_next 4 (some .int) [(0, 9, 12, 21)], Cond.methodLink RL 23 yX3_next, Cond.instanceMethod yX3_next, Cond.selects RX3 yX3_next yX3_next, Cond.code yX3_next cX3_next 2 (some .int), Cond.fieldLink RX3 103 "PlaneFaces$Rounds" "following" "[I", Cond.methodLink RL 86 yX4_next, Cond.instanceMethod yX4_next, Cond.selects RX4 yX4_next yX4_next, Cond.code yX4_next cX4_next 2 (some .int), Cond.methodLink RL 87 yL_face, Cond.static yL_face, Cond.codeWith yL_face cL_face 4 (some .int) [(0, 9, 12, 21)], Cond.methodLink RL 27 yX3_face, Cond.instanceMethod yX3_face, Cond.selects RX3 yX3_face yX3_face, Cond.code yX3_face cX3_face 2 (some .int), Cond.fieldLink RX3 106 "PlaneFaces$Faces" "faceOf" "[I", Cond.methodLink RL 89 yX4_face, Cond.instanceMethod yX4_face, Cond.selects RX4 yX4_face yX4_face]
def wsL_law0_r19 : List Cond := [Cond.code yX4_face cX4_face 2 (some .int), Cond.methodLink RL 90 yL_piece, Cond.static yL_piece, Cond.codeWith yL_piece cL_piece 4 (some .int) [(0, 9, 12, 21)], Cond.methodLink RL 30 yX3_piece, Cond.instanceMethod yX3_piece, Cond.selects RX3 yX3_piece yX3_piece, Cond.code yX3_piece cX3_piece 2 (some .int), Cond.fieldLink RX3 109 "PlaneFaces$Rounds" "pieceOf" "[I", Cond.methodLink RL 92 yX4_piece, Cond.instanceMethod yX4_piece, Cond.selects RX4 yX4_piece yX4_piece, Cond.code yX4_piece cX4_piece 2 (some .int), Cond.methodLink RL 93 yL_around, Cond.static yL_around, Cond.codeWith yL_around cL_around 4 (some .int) [(0, 9, 12, 21)], Cond.methodLink RL 33 yX3_around, Cond.instanceMethod yX3_around, Cond.selects RX3 yX3_around yX3_around, Cond.code yX3_around cX3_around 2 (some .int), Cond.fieldLink RX3 117 "PlaneFaces$Faces" "outside" "[I", Cond.methodLink RL 95 yX4_around, Cond.instanceMethod yX4_around, Cond.selects RX4 yX4_around yX4_around]
def wsL_law0_r20 : List Cond := [Cond.code yX4_around cX4_around 2 (some .int), Cond.methodLink RX4 134 yX4_outer, Cond.instanceMethod yX4_outer, Cond.selects RX4 yX4_outer yX4_outer, Cond.code yX4_outer cX4_outer 4 (some .int), Cond.methodLink RL 96 yL_area, Cond.static yL_area, Cond.codeWith yL_area cL_area 4 (some .int) [(0, 9, 12, 21)], Cond.methodLink RL 36 yX3_area, Cond.instanceMethod yX3_area, Cond.selects RX3 yX3_area yX3_area, Cond.code yX3_area cX3_area 2 (some .int), Cond.methodLink RX3 120 yX3_requireFace, Cond.instanceMethod yX3_requireFace, Cond.selects RX3 yX3_requireFace yX3_requireFace, Cond.code yX3_requireFace cX3_requireFace 2 none, Cond.methodLink RX3 123 yX0_twiceArea, Cond.instanceMethod yX0_twiceArea, Cond.selects RX0 yX0_twiceArea yX0_twiceArea, Cond.code yX0_twiceArea cX0_twiceArea 5 (some .long), Cond.methodLink RL 98 yX4_area, Cond.instanceMethod yX4_area, Cond.selects RX4 yX4_area yX4_area, Cond.code yX4_area cX4_area 5 (some .int)]
def wsL_law0_r21 : List Cond := [Cond.methodLink RX4 137 yX4_isFace, Cond.instanceMethod yX4_isFace, Cond.selects RX4 yX4_isFace yX4_isFace, Cond.code yX4_isFace cX4_isFace 2 (some .boolean), Cond.methodLink RL 99 yL_border, Cond.static yL_border, Cond.codeWith yL_border cL_border 5 (some .int) [(0, 10, 13, 21)], Cond.methodLink RL 39 yX3_border, Cond.instanceMethod yX3_border, Cond.selects RX3 yX3_border yX3_border, Cond.code yX3_border cX3_border 3 (some .int), Cond.methodLink RX3 127 yX0_roundsOf, Cond.instanceMethod yX0_roundsOf, Cond.selects RX0 yX0_roundsOf yX0_roundsOf, Cond.code yX0_roundsOf cX0_roundsOf 4 (some .int), Cond.methodLink RX3 131 yX0_halvesOf, Cond.instanceMethod yX0_halvesOf, Cond.selects RX0 yX0_halvesOf yX0_halvesOf, Cond.code yX0_halvesOf cX0_halvesOf 4 (some .int), Cond.methodLink RX3 134 yX0_leastHalfOf, Cond.instanceMethod yX0_leastHalfOf, Cond.selects RX0 yX0_leastHalfOf yX0_leastHalfOf, Cond.code yX0_leastHalfOf cX0_leastHalfOf 3 (some .int), Cond.methodLink RX3 137 yX0_piecesIn]
def wsL_law0_r22 : List Cond := [Cond.instanceMethod yX0_piecesIn, Cond.selects RX0 yX0_piecesIn yX0_piecesIn, Cond.code yX0_piecesIn cX0_piecesIn 4 (some .int), Cond.fieldLink RX0 89 "PlaneFaces$Rounds" "pieces" "I", Cond.methodLink RL 102 yX4_border, Cond.instanceMethod yX4_border, Cond.selects RX4 yX4_border yX4_border, Cond.code yX4_border cX4_border 6 (some .int), Cond.methodLink RL 103 yL_locate, Cond.static yL_locate, Cond.codeWith yL_locate cL_locate 5 (some .int) [(0, 10, 13, 13)], Cond.methodLink RL 43 yX3_locate, Cond.instanceMethod yX3_locate, Cond.selects RX3 yX3_locate yX3_locate, Cond.code yX3_locate cX3_locate 5 (some .int), Cond.methodLink RX3 140 yX2_leastHalfAt, Cond.methodLink RX3 144 yX2_segmentThrough, Cond.instanceMethod yX2_segmentThrough, Cond.selects RX2 yX2_segmentThrough yX2_segmentThrough, Cond.code yX2_segmentThrough cX2_segmentThrough 4 (some .int), Cond.methodLink RX3 147 yX1_enclosing, Cond.methodLink RX3 151 yX0_faceWithin, Cond.methodLink RL 105 yX4_locate, Cond.instanceMethod yX4_locate]
def wsL_law0_r23 : List Cond := [Cond.selects RX4 yX4_locate yX4_locate, Cond.code yX4_locate cX4_locate 4 (some .int), Cond.methodLink RL 106 yL_above, Cond.static yL_above, Cond.codeWith yL_above cL_above 5 (some .int) [(0, 10, 13, 13)], Cond.methodLink RL 46 yX3_above, Cond.instanceMethod yX3_above, Cond.selects RX3 yX3_above yX3_above, Cond.code yX3_above cX3_above 3 (some .int), Cond.methodLink RX3 154 yX2_firstUpFrom, Cond.instanceMethod yX2_firstUpFrom, Cond.selects RX2 yX2_firstUpFrom yX2_firstUpFrom, Cond.code yX2_firstUpFrom cX2_firstUpFrom 13 (some .int), Cond.methodLink RX2 62 yX2_reachesAbove, Cond.instanceMethod yX2_reachesAbove, Cond.selects RX2 yX2_reachesAbove yX2_reachesAbove, Cond.code yX2_reachesAbove cX2_reachesAbove 5 (some .boolean), Cond.methodLink RX2 72 Lib.Math.max.name, Cond.methodLink RX2 65 yX2_height, Cond.instanceMethod yX2_height, Cond.selects RX2 yX2_height yX2_height, Cond.code yX2_height cX2_height 9 (some .long), Cond.methodLink RX2 78 Lib.Math.min.name, Cond.methodLink RX2 68 yX2_width]
def wsL_law0_r24 : List Cond := [Cond.instanceMethod yX2_width, Cond.selects RX2 yX2_width yX2_width, Cond.code yX2_width cX2_width 2 (some .long), Cond.methodLink RX2 81 Lib.Math.abs.name, Cond.static Lib.Math.abs.name, Cond.code Lib.Math.abs.name Lib.Math.abs.code 1 (some .int), Cond.methodLink RL 108 yX4_above, Cond.instanceMethod yX4_above, Cond.selects RX4 yX4_above yX4_above, Cond.code yX4_above cX4_above 6 (some .int), Cond.methodLink RX4 150 yX4_isMet, Cond.instanceMethod yX4_isMet, Cond.selects RX4 yX4_isMet yX4_isMet, Cond.code yX4_isMet cX4_isMet 7 (some .boolean), Cond.methodLink RX4 142 yX4_height, Cond.instanceMethod yX4_height, Cond.selects RX4 yX4_height yX4_height, Cond.code yX4_height cX4_height 8 (some .long), Cond.constantLong RX4 140 (-100000), Cond.methodLink RX4 146 yX4_width, Cond.instanceMethod yX4_width, Cond.selects RX4 yX4_width yX4_width, Cond.code yX4_width cX4_width 3 (some .long), Cond.methodLink RL 109 yL_across]
def wsL_law0_r25 : List Cond := [Cond.static yL_across, Cond.codeWith yL_across cL_across 5 (some .int) [(0, 10, 13, 21)], Cond.methodLink RL 49 yX3_across, Cond.instanceMethod yX3_across, Cond.selects RX3 yX3_across yX3_across, Cond.code yX3_across cX3_across 3 (some .int), Cond.methodLink RX3 157 yX0_crossings, Cond.instanceMethod yX0_crossings, Cond.selects RX0 yX0_crossings yX0_crossings, Cond.code yX0_crossings cX0_crossings 5 (some .int), Cond.methodLink RX0 92 yX0_cross, Cond.instanceMethod yX0_cross, Cond.selects RX0 yX0_cross yX0_cross, Cond.code yX0_cross cX0_cross 4 none, Cond.methodLink RL 111 yX4_across, Cond.instanceMethod yX4_across, Cond.selects RX4 yX4_across yX4_across, Cond.code yX4_across cX4_across 5 (some .int)]
def wsL_law0 : List Cond := (wsL_law0_r1 ++ (wsL_law0_r2 ++ (wsL_law0_r3 ++ (wsL_law0_r4 ++ (wsL_law0_r5 ++ (wsL_law0_r6 ++ (wsL_law0_r7 ++ (wsL_law0_r8 ++ (wsL_law0_r9 ++ (wsL_law0_r10 ++ (wsL_law0_r11 ++ (wsL_law0_r12 ++ (wsL_law0_r13 ++ (wsL_law0_r14 ++ (wsL_law0_r15 ++ (wsL_law0_r16 ++ (wsL_law0_r17 ++ (wsL_law0_r18 ++ (wsL_law0_r19 ++ (wsL_law0_r20 ++ (wsL_law0_r21 ++ (wsL_law0_r22 ++ (wsL_law0_r23 ++ (wsL_law0_r24 ++ wsL_law0_r25)))))))))))))))))))))))) ++ wsX30 ++ wsX40 ++ wsX00 ++ wsX10 ++ wsX20 ++ ([] : List Cond)
def wsL_law : List Cond := wsL_law0 ++ (vx_atS RX3 40 "java/lang/IllegalArgumentException" ["java/lang/RuntimeException", "java/lang/Exception"]).filter goodWord ++ (vx_atS RX3 53 "java/lang/IllegalStateException" ["java/lang/RuntimeException", "java/lang/Exception"]).filter goodWord ++ (vx_atS RX3 116 "java/lang/IndexOutOfBoundsException" ["java/lang/RuntimeException", "java/lang/Exception"]).filter goodWord
abbrev vwCl : List vw_C := [(RX0, TX0, 8), (RX1, TX1, 11), (RX2, TX2, 4), (RX3, TX3, 4), (RX4, TX4, 16)]
end
section
set_option maxRecDepth 20000 in
theorem in_wsL_law0_r1 : ∀ w ∈ wsL_law0_r1, w ∈ lw_tbl := fun w h => (goodIn_p wsL_law0_r1 [64, 67, 72] (by decide +kernel) (by decide +kernel) w h).1
set_option maxRecDepth 20000 in
theorem in_wsL_law0_r2 : ∀ w ∈ wsL_law0_r2, w ∈ lw_tbl := fun w h => (goodIn_p wsL_law0_r2 [78] (by decide +kernel) (by decide +kernel) w h).1
set_option maxRecDepth 20000 in
theorem in_wsL_law0_r3 : ∀ w ∈ wsL_law0_r3, w ∈ lw_tbl := fun w h => (goodIn_p wsL_law0_r3 [84, 630] (by decide +kernel) (by decide +kernel) w h).1
set_option maxRecDepth 20000 in
theorem in_wsL_law0_r4 : ∀ w ∈ wsL_law0_r4, w ∈ lw_tbl := fun w h => (goodIn_p wsL_law0_r4 [344, 347] (by decide +kernel) (by decide +kernel) w h).1
set_option maxRecDepth 20000 in
theorem in_wsL_law0_r5 : ∀ w ∈ wsL_law0_r5, w ∈ lw_tbl := fun w h => (goodIn_p wsL_law0_r5 [420, 440, 444, 448, 452, 317] (by decide +kernel) (by decide +kernel) w h).1
set_option maxRecDepth 20000 in
theorem in_wsL_law0_r6 : ∀ w ∈ wsL_law0_r6, w ∈ lw_tbl := fun w h => (goodIn_p wsL_law0_r6 [456, 460, 464, 468, 472, 688] (by decide +kernel) (by decide +kernel) w h).1
set_option maxRecDepth 20000 in
theorem in_wsL_law0_r7 : ∀ w ∈ wsL_law0_r7, w ∈ lw_tbl := fun w h => (goodIn_p wsL_law0_r7 [691, 695, 699, 703, 706, 709] (by decide +kernel) (by decide +kernel) w h).1
set_option maxRecDepth 20000 in
theorem in_wsL_law0_r8 : ∀ w ∈ wsL_law0_r8, w ∈ lw_tbl := fun w h => (goodIn_p wsL_law0_r8 [712, 684, 201, 205, 209, 716] (by decide +kernel) (by decide +kernel) w h).1
set_option maxRecDepth 20000 in
theorem in_wsL_law0_r9 : ∀ w ∈ wsL_law0_r9, w ∈ lw_tbl := fun w h => (goodIn_p wsL_law0_r9 [213, 217, 720, 221, 225] (by decide +kernel) (by decide +kernel) w h).1
set_option maxRecDepth 20000 in
theorem in_wsL_law0_r10 : ∀ w ∈ wsL_law0_r10, w ∈ lw_tbl := fun w h => (goodIn_p wsL_law0_r10 [229, 233, 237, 241, 245, 249] (by decide +kernel) (by decide +kernel) w h).1
set_option maxRecDepth 20000 in
theorem in_wsL_law0_r11 : ∀ w ∈ wsL_law0_r11, w ∈ lw_tbl := fun w h => (goodIn_p wsL_law0_r11 [252, 256, 260, 263, 266, 270] (by decide +kernel) (by decide +kernel) w h).1
set_option maxRecDepth 20000 in
theorem in_wsL_law0_r12 : ∀ w ∈ wsL_law0_r12, w ∈ lw_tbl := fun w h => (goodIn_p wsL_law0_r12 [274, 277, 281, 285, 289, 293] (by decide +kernel) (by decide +kernel) w h).1
end
section
set_option maxRecDepth 20000 in
theorem in_wsL_law0_r13 : ∀ w ∈ wsL_law0_r13, w ∈ lw_tbl := fun w h => (goodIn_p wsL_law0_r13 [297, 301, 305, 309, 313] (by decide +kernel) (by decide +kernel) w h).1
set_option maxRecDepth 20000 in
theorem in_wsL_law0_r14 : ∀ w ∈ wsL_law0_r14, w ∈ lw_tbl := fun w h => (goodIn_p wsL_law0_r14 [322, 327, 331, 335, 724] (by decide +kernel) (by decide +kernel) w h).1
set_option maxRecDepth 20000 in
theorem in_wsL_law0_r15 : ∀ w ∈ wsL_law0_r15, w ∈ lw_tbl := fun w h => (goodIn_p wsL_law0_r15 [728, 732, 735, 739, 743] (by decide +kernel) (by decide +kernel) w h).1
set_option maxRecDepth 20000 in
theorem in_wsL_law0_r16 : ∀ w ∈ wsL_law0_r16, w ∈ lw_tbl := fun w h => (goodIn_p wsL_law0_r16 [747, 751, 755, 759, 763, 767] (by decide +kernel) (by decide +kernel) w h).1
set_option maxRecDepth 20000 in
theorem in_wsL_law0_r17 : ∀ w ∈ wsL_law0_r17, w ∈ lw_tbl := fun w h => (goodIn_p wsL_law0_r17 [771, 480, 484, 775] (by decide +kernel) (by decide +kernel) w h).1
set_option maxRecDepth 20000 in
theorem in_wsL_law0_r18 : ∀ w ∈ wsL_law0_r18, w ∈ lw_tbl := fun w h => (goodIn_p wsL_law0_r18 [779, 507, 783, 514] (by decide +kernel) (by decide +kernel) w h).1
set_option maxRecDepth 20000 in
theorem in_wsL_law0_r19 : ∀ w ∈ wsL_law0_r19, w ∈ lw_tbl := fun w h => (goodIn_p wsL_law0_r19 [787, 521, 791, 528] (by decide +kernel) (by decide +kernel) w h).1
set_option maxRecDepth 20000 in
theorem in_wsL_law0_r20 : ∀ w ∈ wsL_law0_r20, w ∈ lw_tbl := fun w h => (goodIn_p wsL_law0_r20 [795, 799, 536, 540, 545, 803] (by decide +kernel) (by decide +kernel) w h).1
set_option maxRecDepth 20000 in
theorem in_wsL_law0_r21 : ∀ w ∈ wsL_law0_r21, w ∈ lw_tbl := fun w h => (goodIn_p wsL_law0_r21 [807, 552, 556, 560, 564] (by decide +kernel) (by decide +kernel) w h).1
set_option maxRecDepth 20000 in
theorem in_wsL_law0_r22 : ∀ w ∈ wsL_law0_r22, w ∈ lw_tbl := fun w h => (goodIn_p wsL_law0_r22 [568, 811, 575, 580] (by decide +kernel) (by decide +kernel) w h).1
set_option maxRecDepth 20000 in
theorem in_wsL_law0_r23 : ∀ w ∈ wsL_law0_r23, w ∈ lw_tbl := fun w h => (goodIn_p wsL_law0_r23 [815, 589, 593, 597, 602] (by decide +kernel) (by decide +kernel) w h).1
set_option maxRecDepth 20000 in
theorem in_wsL_law0_r24 : ∀ w ∈ wsL_law0_r24, w ∈ lw_tbl := fun w h => (goodIn_p wsL_law0_r24 [607, 610, 819, 823, 827, 832] (by decide +kernel) (by decide +kernel) w h).1
set_option maxRecDepth 20000 in
theorem in_wsL_law0_r25 : ∀ w ∈ wsL_law0_r25, w ∈ lw_tbl := fun w h => (goodIn_p wsL_law0_r25 [617, 621, 625, 836] (by decide +kernel) (by decide +kernel) w h).1
end
section
theorem mem_app2 {a b big : List Cond} (ha : ∀ w ∈ a, w ∈ big) (hb : ∀ w ∈ b, w ∈ big) : ∀ w ∈ a ++ b, w ∈ big := fun w h => (List.mem_append.mp h).elim (ha w) (hb w)
theorem in_wsX00 : ∀ w ∈ wsX00, w ∈ lw_tbl := by decide +kernel
theorem in_wsX10 : ∀ w ∈ wsX10, w ∈ lw_tbl := by decide +kernel
theorem in_wsX20 : ∀ w ∈ wsX20, w ∈ lw_tbl := by decide +kernel
theorem in_wsX30 : ∀ w ∈ wsX30, w ∈ lw_tbl := by decide +kernel
theorem in_wsX40 : ∀ w ∈ wsX40, w ∈ lw_tbl := by decide +kernel
theorem wsL_law_in0 : ∀ w ∈ wsL_law0, w ∈ lw_tbl := by
  unfold wsL_law0
  repeat' (first | with_reducible refine mem_app2 ?_ ?_ | exact fun w h => absurd h List.not_mem_nil | with_reducible exact in_wsL_law0_r1 | with_reducible exact in_wsL_law0_r2 | with_reducible exact in_wsL_law0_r3 | with_reducible exact in_wsL_law0_r4 | with_reducible exact in_wsL_law0_r5 | with_reducible exact in_wsL_law0_r6 | with_reducible exact in_wsL_law0_r7 | with_reducible exact in_wsL_law0_r8 | with_reducible exact in_wsL_law0_r9 | with_reducible exact in_wsL_law0_r10 | with_reducible exact in_wsL_law0_r11 | with_reducible exact in_wsL_law0_r12 | with_reducible exact in_wsL_law0_r13 | with_reducible exact in_wsL_law0_r14 | with_reducible exact in_wsL_law0_r15 | with_reducible exact in_wsL_law0_r16 | with_reducible exact in_wsL_law0_r17 | with_reducible exact in_wsL_law0_r18 | with_reducible exact in_wsL_law0_r19 | with_reducible exact in_wsL_law0_r20 | with_reducible exact in_wsL_law0_r21 | with_reducible exact in_wsL_law0_r22 | with_reducible exact in_wsL_law0_r23 | with_reducible exact in_wsL_law0_r24 | with_reducible exact in_wsL_law0_r25 | with_reducible exact in_wsX00 | with_reducible exact in_wsX10 | with_reducible exact in_wsX20 | with_reducible exact in_wsX30 | with_reducible exact in_wsX40)
theorem wsL_law_x0 : ∀ w ∈ (vx_atS RX3 40 "java/lang/IllegalArgumentException" ["java/lang/RuntimeException", "java/lang/Exception"]).filter goodWord, w ∈ lw_tbl := by decide +kernel
theorem wsL_law_x1 : ∀ w ∈ (vx_atS RX3 53 "java/lang/IllegalStateException" ["java/lang/RuntimeException", "java/lang/Exception"]).filter goodWord, w ∈ lw_tbl := by decide +kernel
theorem wsL_law_x2 : ∀ w ∈ (vx_atS RX3 116 "java/lang/IndexOutOfBoundsException" ["java/lang/RuntimeException", "java/lang/Exception"]).filter goodWord, w ∈ lw_tbl := by decide +kernel
theorem wsL_law_in : ∀ w ∈ wsL_law, w ∈ lw_tbl := fun w h => (List.mem_append.mp h).elim (fun h => (List.mem_append.mp h).elim (fun h => (List.mem_append.mp h).elim (fun h => wsL_law_in0 w h) (fun h => wsL_law_x0 w h)) (fun h => wsL_law_x1 w h)) (fun h => wsL_law_x2 w h)
theorem inlX0 : ∀ w ∈ wsX00, w ∈ wsL_law := fun _ h => List.mem_append_left _ (List.mem_append_left _ (List.mem_append_left _ (List.mem_append_left _ (List.mem_append_left _ (List.mem_append_left _ (List.mem_append_right _ h))))))
theorem inX0 : ∀ w ∈ wsX00, w ∈ lw_tbl := fun w h => wsL_law_in w (inlX0 w h)
theorem inlX1 : ∀ w ∈ wsX10, w ∈ wsL_law := fun _ h => List.mem_append_left _ (List.mem_append_left _ (List.mem_append_left _ (List.mem_append_left _ (List.mem_append_left _ (List.mem_append_right _ h)))))
theorem inX1 : ∀ w ∈ wsX10, w ∈ lw_tbl := fun w h => wsL_law_in w (inlX1 w h)
theorem inlX2 : ∀ w ∈ wsX20, w ∈ wsL_law := fun _ h => List.mem_append_left _ (List.mem_append_left _ (List.mem_append_left _ (List.mem_append_left _ (List.mem_append_right _ h))))
theorem inX2 : ∀ w ∈ wsX20, w ∈ lw_tbl := fun w h => wsL_law_in w (inlX2 w h)
theorem inlX3 : ∀ w ∈ wsX30, w ∈ wsL_law := fun _ h => List.mem_append_left _ (List.mem_append_left _ (List.mem_append_left _ (List.mem_append_left _ (List.mem_append_left _ (List.mem_append_left _ (List.mem_append_left _ (List.mem_append_left _ (List.mem_append_right _ h))))))))
theorem inX3 : ∀ w ∈ wsX30, w ∈ lw_tbl := fun w h => wsL_law_in w (inlX3 w h)
theorem inlX4 : ∀ w ∈ wsX40, w ∈ wsL_law := fun _ h => List.mem_append_left _ (List.mem_append_left _ (List.mem_append_left _ (List.mem_append_left _ (List.mem_append_left _ (List.mem_append_left _ (List.mem_append_left _ (List.mem_append_right _ h)))))))
theorem inX4 : ∀ w ∈ wsX40, w ∈ lw_tbl := fun w h => wsL_law_in w (inlX4 w h)
theorem inJ9 : ∀ w ∈ wsJ90, w ∈ lw_tbl := by decide +kernel
theorem inJ0 : ∀ w ∈ wsJ00, w ∈ lw_tbl := by decide +kernel
theorem inJ7 : ∀ w ∈ wsJ70, w ∈ lw_tbl := by decide +kernel
end
section
theorem dX2_init_0 : decode cX2_init 0 = .ok (.aload_n 0, 1) := by decide +kernel
theorem dX2_init_1 : decode cX2_init 1 = .ok (.invokespecial 3, 3) := by decide +kernel
theorem dX2_init_4 : decode cX2_init 4 = .ok (.aload_n 0, 1) := by decide +kernel
theorem dX2_init_5 : decode cX2_init 5 = .ok (.bipush 120, 2) := by decide +kernel
theorem dX2_init_7 : decode cX2_init 7 = .ok (.newarray .int, 2) := by decide +kernel
theorem dX2_init_9 : decode cX2_init 9 = .ok (.putfield 9, 3) := by decide +kernel
theorem dX2_init_12 : decode cX2_init 12 = .ok (.aload_n 0, 1) := by decide +kernel
theorem dX2_init_13 : decode cX2_init 13 = .ok (.bipush 120, 2) := by decide +kernel
theorem dX2_init_15 : decode cX2_init 15 = .ok (.newarray .int, 2) := by decide +kernel
theorem dX2_init_17 : decode cX2_init 17 = .ok (.putfield 15, 3) := by decide +kernel
theorem dX2_init_20 : decode cX2_init 20 = .ok (.aload_n 0, 1) := by decide +kernel
theorem dX2_init_21 : decode cX2_init 21 = .ok (.bipush 60, 2) := by decide +kernel
theorem dX2_init_23 : decode cX2_init 23 = .ok (.newarray .boolean, 2) := by decide +kernel
theorem dX2_init_25 : decode cX2_init 25 = .ok (.putfield 18, 3) := by decide +kernel
theorem dX2_init_28 : decode cX2_init 28 = .ok (.aload_n 0, 1) := by decide +kernel
theorem dX2_init_29 : decode cX2_init 29 = .ok (.iconst 0, 1) := by decide +kernel
theorem dX2_init_30 : decode cX2_init 30 = .ok (.putfield 22, 3) := by decide +kernel
theorem dX2_init_33 : decode cX2_init 33 = .ok (.return_, 1) := by decide +kernel
theorem dX2_has_0 : decode cX2_has 0 = .ok (.iload_n 1, 1) := by decide +kernel
theorem dX2_has_1 : decode cX2_has 1 = .ok (.ifCond .lt 22, 3) := by decide +kernel
theorem dX2_has_4 : decode cX2_has 4 = .ok (.iload_n 1, 1) := by decide +kernel
theorem dX2_has_5 : decode cX2_has 5 = .ok (.bipush 60, 2) := by decide +kernel
theorem dX2_has_7 : decode cX2_has 7 = .ok (.if_icmp .ge 16, 3) := by decide +kernel
theorem dX2_has_10 : decode cX2_has 10 = .ok (.aload_n 0, 1) := by decide +kernel
theorem dX2_has_11 : decode cX2_has 11 = .ok (.getfield 18, 3) := by decide +kernel
theorem dX2_has_14 : decode cX2_has 14 = .ok (.iload_n 1, 1) := by decide +kernel
theorem dX2_has_15 : decode cX2_has 15 = .ok (.baload, 1) := by decide +kernel
theorem dX2_has_16 : decode cX2_has 16 = .ok (.ifCond .eq 7, 3) := by decide +kernel
theorem dX2_has_19 : decode cX2_has 19 = .ok (.iconst 1, 1) := by decide +kernel
theorem dX2_has_20 : decode cX2_has 20 = .ok (.goto 4, 3) := by decide +kernel
theorem dX2_has_23 : decode cX2_has 23 = .ok (.iconst 0, 1) := by decide +kernel
theorem dX2_has_24 : decode cX2_has 24 = .ok (.ireturn, 1) := by decide +kernel
theorem dX2_leastFree_0 : decode cX2_leastFree 0 = .ok (.iconst 0, 1) := by decide +kernel
theorem dX2_leastFree_1 : decode cX2_leastFree 1 = .ok (.istore_n 1, 1) := by decide +kernel
theorem dX2_leastFree_2 : decode cX2_leastFree 2 = .ok (.iload_n 1, 1) := by decide +kernel
theorem dX2_leastFree_3 : decode cX2_leastFree 3 = .ok (.bipush 60, 2) := by decide +kernel
theorem dX2_leastFree_5 : decode cX2_leastFree 5 = .ok (.if_icmp .ge 20, 3) := by decide +kernel
theorem dX2_leastFree_8 : decode cX2_leastFree 8 = .ok (.aload_n 0, 1) := by decide +kernel
theorem dX2_leastFree_9 : decode cX2_leastFree 9 = .ok (.getfield 18, 3) := by decide +kernel
theorem dX2_leastFree_12 : decode cX2_leastFree 12 = .ok (.iload_n 1, 1) := by decide +kernel
theorem dX2_leastFree_13 : decode cX2_leastFree 13 = .ok (.baload, 1) := by decide +kernel
theorem dX2_leastFree_14 : decode cX2_leastFree 14 = .ok (.ifCond .ne 5, 3) := by decide +kernel
theorem dX2_leastFree_17 : decode cX2_leastFree 17 = .ok (.iload_n 1, 1) := by decide +kernel
theorem dX2_leastFree_18 : decode cX2_leastFree 18 = .ok (.ireturn, 1) := by decide +kernel
theorem dX2_leastFree_19 : decode cX2_leastFree 19 = .ok (.iinc 1 1, 3) := by decide +kernel
theorem dX2_leastFree_22 : decode cX2_leastFree 22 = .ok (.goto (-20), 3) := by decide +kernel
theorem dX2_leastFree_25 : decode cX2_leastFree 25 = .ok (.iconst (-1), 1) := by decide +kernel
theorem dX2_leastFree_26 : decode cX2_leastFree 26 = .ok (.ireturn, 1) := by decide +kernel
theorem dX2_draw_0 : decode cX2_draw 0 = .ok (.aload_n 0, 1) := by decide +kernel
theorem dX2_draw_1 : decode cX2_draw 1 = .ok (.getfield 9, 3) := by decide +kernel
theorem dX2_draw_4 : decode cX2_draw 4 = .ok (.iconst 2, 1) := by decide +kernel
theorem dX2_draw_5 : decode cX2_draw 5 = .ok (.iload_n 1, 1) := by decide +kernel
theorem dX2_draw_6 : decode cX2_draw 6 = .ok (.imul, 1) := by decide +kernel
theorem dX2_draw_7 : decode cX2_draw 7 = .ok (.iload_n 2, 1) := by decide +kernel
theorem dX2_draw_8 : decode cX2_draw 8 = .ok (.iastore, 1) := by decide +kernel
theorem dX2_draw_9 : decode cX2_draw 9 = .ok (.aload_n 0, 1) := by decide +kernel
theorem dX2_draw_10 : decode cX2_draw 10 = .ok (.getfield 15, 3) := by decide +kernel
theorem dX2_draw_13 : decode cX2_draw 13 = .ok (.iconst 2, 1) := by decide +kernel
theorem dX2_draw_14 : decode cX2_draw 14 = .ok (.iload_n 1, 1) := by decide +kernel
theorem dX2_draw_15 : decode cX2_draw 15 = .ok (.imul, 1) := by decide +kernel
theorem dX2_draw_16 : decode cX2_draw 16 = .ok (.iload_n 3, 1) := by decide +kernel
theorem dX2_draw_17 : decode cX2_draw 17 = .ok (.iastore, 1) := by decide +kernel
theorem dX2_draw_18 : decode cX2_draw 18 = .ok (.aload_n 0, 1) := by decide +kernel
theorem dX2_draw_19 : decode cX2_draw 19 = .ok (.getfield 9, 3) := by decide +kernel
theorem dX2_draw_22 : decode cX2_draw 22 = .ok (.iconst 2, 1) := by decide +kernel
theorem dX2_draw_23 : decode cX2_draw 23 = .ok (.iload_n 1, 1) := by decide +kernel
theorem dX2_draw_24 : decode cX2_draw 24 = .ok (.imul, 1) := by decide +kernel
theorem dX2_draw_25 : decode cX2_draw 25 = .ok (.iconst 1, 1) := by decide +kernel
theorem dX2_draw_26 : decode cX2_draw 26 = .ok (.iadd, 1) := by decide +kernel
theorem dX2_draw_27 : decode cX2_draw 27 = .ok (.iload 4, 2) := by decide +kernel
theorem dX2_draw_29 : decode cX2_draw 29 = .ok (.iastore, 1) := by decide +kernel
theorem dX2_draw_30 : decode cX2_draw 30 = .ok (.aload_n 0, 1) := by decide +kernel
theorem dX2_draw_31 : decode cX2_draw 31 = .ok (.getfield 15, 3) := by decide +kernel
theorem dX2_draw_34 : decode cX2_draw 34 = .ok (.iconst 2, 1) := by decide +kernel
theorem dX2_draw_35 : decode cX2_draw 35 = .ok (.iload_n 1, 1) := by decide +kernel
theorem dX2_draw_36 : decode cX2_draw 36 = .ok (.imul, 1) := by decide +kernel
theorem dX2_draw_37 : decode cX2_draw 37 = .ok (.iconst 1, 1) := by decide +kernel
theorem dX2_draw_38 : decode cX2_draw 38 = .ok (.iadd, 1) := by decide +kernel
theorem dX2_draw_39 : decode cX2_draw 39 = .ok (.iload 5, 2) := by decide +kernel
theorem dX2_draw_41 : decode cX2_draw 41 = .ok (.iastore, 1) := by decide +kernel
theorem dX2_draw_42 : decode cX2_draw 42 = .ok (.return_, 1) := by decide +kernel
theorem dX2_keep_0 : decode cX2_keep 0 = .ok (.aload_n 0, 1) := by decide +kernel
theorem dX2_keep_1 : decode cX2_keep 1 = .ok (.getfield 18, 3) := by decide +kernel
theorem dX2_keep_4 : decode cX2_keep 4 = .ok (.iload_n 1, 1) := by decide +kernel
theorem dX2_keep_5 : decode cX2_keep 5 = .ok (.iconst 1, 1) := by decide +kernel
theorem dX2_keep_6 : decode cX2_keep 6 = .ok (.bastore, 1) := by decide +kernel
theorem dX2_keep_7 : decode cX2_keep 7 = .ok (.aload_n 0, 1) := by decide +kernel
theorem dX2_keep_8 : decode cX2_keep 8 = .ok (.dup, 1) := by decide +kernel
theorem dX2_keep_9 : decode cX2_keep 9 = .ok (.getfield 22, 3) := by decide +kernel
theorem dX2_keep_12 : decode cX2_keep 12 = .ok (.iconst 1, 1) := by decide +kernel
theorem dX2_keep_13 : decode cX2_keep 13 = .ok (.iadd, 1) := by decide +kernel
theorem dX2_keep_14 : decode cX2_keep 14 = .ok (.putfield 22, 3) := by decide +kernel
theorem dX2_keep_17 : decode cX2_keep 17 = .ok (.return_, 1) := by decide +kernel
theorem dX2_drop_0 : decode cX2_drop 0 = .ok (.aload_n 0, 1) := by decide +kernel
theorem dX2_drop_1 : decode cX2_drop 1 = .ok (.getfield 18, 3) := by decide +kernel
theorem dX2_drop_4 : decode cX2_drop 4 = .ok (.iload_n 1, 1) := by decide +kernel
theorem dX2_drop_5 : decode cX2_drop 5 = .ok (.iconst 0, 1) := by decide +kernel
theorem dX2_drop_6 : decode cX2_drop 6 = .ok (.bastore, 1) := by decide +kernel
theorem dX2_drop_7 : decode cX2_drop 7 = .ok (.aload_n 0, 1) := by decide +kernel
theorem dX2_drop_8 : decode cX2_drop 8 = .ok (.dup, 1) := by decide +kernel
theorem dX2_drop_9 : decode cX2_drop 9 = .ok (.getfield 22, 3) := by decide +kernel
theorem dX2_drop_12 : decode cX2_drop 12 = .ok (.iconst 1, 1) := by decide +kernel
theorem dX2_drop_13 : decode cX2_drop 13 = .ok (.isub, 1) := by decide +kernel
theorem dX2_drop_14 : decode cX2_drop 14 = .ok (.putfield 22, 3) := by decide +kernel
theorem dX2_drop_17 : decode cX2_drop 17 = .ok (.return_, 1) := by decide +kernel
theorem dX2_dropAll_0 : decode cX2_dropAll 0 = .ok (.iconst 0, 1) := by decide +kernel
theorem dX2_dropAll_1 : decode cX2_dropAll 1 = .ok (.istore_n 1, 1) := by decide +kernel
theorem dX2_dropAll_2 : decode cX2_dropAll 2 = .ok (.iload_n 1, 1) := by decide +kernel
theorem dX2_dropAll_3 : decode cX2_dropAll 3 = .ok (.bipush 60, 2) := by decide +kernel
theorem dX2_dropAll_5 : decode cX2_dropAll 5 = .ok (.if_icmp .ge 16, 3) := by decide +kernel
theorem dX2_dropAll_8 : decode cX2_dropAll 8 = .ok (.aload_n 0, 1) := by decide +kernel
theorem dX2_dropAll_9 : decode cX2_dropAll 9 = .ok (.getfield 18, 3) := by decide +kernel
theorem dX2_dropAll_12 : decode cX2_dropAll 12 = .ok (.iload_n 1, 1) := by decide +kernel
theorem dX2_dropAll_13 : decode cX2_dropAll 13 = .ok (.iconst 0, 1) := by decide +kernel
theorem dX2_dropAll_14 : decode cX2_dropAll 14 = .ok (.bastore, 1) := by decide +kernel
theorem dX2_dropAll_15 : decode cX2_dropAll 15 = .ok (.iinc 1 1, 3) := by decide +kernel
theorem dX2_dropAll_18 : decode cX2_dropAll 18 = .ok (.goto (-16), 3) := by decide +kernel
theorem dX2_dropAll_21 : decode cX2_dropAll 21 = .ok (.aload_n 0, 1) := by decide +kernel
theorem dX2_dropAll_22 : decode cX2_dropAll 22 = .ok (.iconst 0, 1) := by decide +kernel
theorem dX2_dropAll_23 : decode cX2_dropAll 23 = .ok (.putfield 22, 3) := by decide +kernel
theorem dX2_dropAll_26 : decode cX2_dropAll 26 = .ok (.return_, 1) := by decide +kernel
set_option maxRecDepth 20000 in
theorem ggX2_clashes_X2_touches : GoodIn wsX2_clashes wsX2_touches := goodIn_r _ [6, 7, 8, 9, 10, 11, 5, 12, 13, 14, 15, 16, 33, 34, 35, 36] (by decide +kernel) (by decide +kernel)
set_option maxRecDepth 20000 in
theorem gX2_clashes_X2_touches : GoodIn wsX2_clashes (wsV RX2 26 RX2 yX2_touches wsX2_touches) := goodIn_app (goodIn_of _ (by decide +kernel)) ggX2_clashes_X2_touches
set_option maxRecDepth 20000 in
theorem ggX2_clashes_X2_sameEnds : GoodIn wsX2_clashes wsX2_sameEnds := goodIn_r _ [20, 21, 22, 23, 5, 24, 7, 8, 33, 34, 35, 36] (by decide +kernel) (by decide +kernel)
set_option maxRecDepth 20000 in
theorem gX2_clashes_X2_sameEnds : GoodIn wsX2_clashes (wsV RX2 30 RX2 yX2_sameEnds wsX2_sameEnds) := goodIn_app (goodIn_of _ (by decide +kernel)) ggX2_clashes_X2_sameEnds
set_option maxRecDepth 20000 in
theorem ggX2_clashes_X2_crosses : GoodIn wsX2_clashes wsX2_crosses := goodIn_r _ [28, 29, 30, 31, 5, 32, 7, 8, 13, 14, 15, 16, 33, 34, 35, 36] (by decide +kernel) (by decide +kernel)
set_option maxRecDepth 20000 in
theorem gX2_clashes_X2_crosses : GoodIn wsX2_clashes (wsV RX2 33 RX2 yX2_crosses wsX2_crosses) := goodIn_app (goodIn_of _ (by decide +kernel)) ggX2_clashes_X2_crosses
theorem dX2_clashes_0 : decode cX2_clashes 0 = .ok (.iconst 0, 1) := by decide +kernel
theorem dX2_clashes_1 : decode cX2_clashes 1 = .ok (.istore_n 2, 1) := by decide +kernel
theorem dX2_clashes_2 : decode cX2_clashes 2 = .ok (.iload_n 2, 1) := by decide +kernel
theorem dX2_clashes_3 : decode cX2_clashes 3 = .ok (.bipush 60, 2) := by decide +kernel
theorem dX2_clashes_5 : decode cX2_clashes 5 = .ok (.if_icmp .ge 56, 3) := by decide +kernel
theorem dX2_clashes_8 : decode cX2_clashes 8 = .ok (.aload_n 0, 1) := by decide +kernel
theorem dX2_clashes_9 : decode cX2_clashes 9 = .ok (.getfield 18, 3) := by decide +kernel
theorem dX2_clashes_12 : decode cX2_clashes 12 = .ok (.iload_n 2, 1) := by decide +kernel
theorem dX2_clashes_13 : decode cX2_clashes 13 = .ok (.baload, 1) := by decide +kernel
theorem dX2_clashes_14 : decode cX2_clashes 14 = .ok (.ifCond .eq 41, 3) := by decide +kernel
theorem dX2_clashes_17 : decode cX2_clashes 17 = .ok (.aload_n 0, 1) := by decide +kernel
theorem dX2_clashes_18 : decode cX2_clashes 18 = .ok (.iload_n 1, 1) := by decide +kernel
theorem dX2_clashes_19 : decode cX2_clashes 19 = .ok (.iload_n 2, 1) := by decide +kernel
theorem dX2_clashes_20 : decode cX2_clashes 20 = .ok (.invokevirtual 26, 3) := by decide +kernel
theorem dX2_clashes_23 : decode cX2_clashes 23 = .ok (.ifCond .ne 30, 3) := by decide +kernel
theorem dX2_clashes_26 : decode cX2_clashes 26 = .ok (.aload_n 0, 1) := by decide +kernel
theorem dX2_clashes_27 : decode cX2_clashes 27 = .ok (.iload_n 2, 1) := by decide +kernel
theorem dX2_clashes_28 : decode cX2_clashes 28 = .ok (.iload_n 1, 1) := by decide +kernel
theorem dX2_clashes_29 : decode cX2_clashes 29 = .ok (.invokevirtual 26, 3) := by decide +kernel
theorem dX2_clashes_32 : decode cX2_clashes 32 = .ok (.ifCond .ne 21, 3) := by decide +kernel
theorem dX2_clashes_35 : decode cX2_clashes 35 = .ok (.aload_n 0, 1) := by decide +kernel
theorem dX2_clashes_36 : decode cX2_clashes 36 = .ok (.iload_n 1, 1) := by decide +kernel
theorem dX2_clashes_37 : decode cX2_clashes 37 = .ok (.iload_n 2, 1) := by decide +kernel
theorem dX2_clashes_38 : decode cX2_clashes 38 = .ok (.invokevirtual 30, 3) := by decide +kernel
theorem dX2_clashes_41 : decode cX2_clashes 41 = .ok (.ifCond .ne 12, 3) := by decide +kernel
theorem dX2_clashes_44 : decode cX2_clashes 44 = .ok (.aload_n 0, 1) := by decide +kernel
theorem dX2_clashes_45 : decode cX2_clashes 45 = .ok (.iload_n 1, 1) := by decide +kernel
theorem dX2_clashes_46 : decode cX2_clashes 46 = .ok (.iload_n 2, 1) := by decide +kernel
theorem dX2_clashes_47 : decode cX2_clashes 47 = .ok (.invokevirtual 33, 3) := by decide +kernel
theorem dX2_clashes_50 : decode cX2_clashes 50 = .ok (.ifCond .eq 5, 3) := by decide +kernel
theorem dX2_clashes_53 : decode cX2_clashes 53 = .ok (.iconst 1, 1) := by decide +kernel
theorem dX2_clashes_54 : decode cX2_clashes 54 = .ok (.ireturn, 1) := by decide +kernel
theorem dX2_clashes_55 : decode cX2_clashes 55 = .ok (.iinc 2 1, 3) := by decide +kernel
theorem dX2_clashes_58 : decode cX2_clashes 58 = .ok (.goto (-56), 3) := by decide +kernel
theorem dX2_clashes_61 : decode cX2_clashes 61 = .ok (.iconst 0, 1) := by decide +kernel
theorem dX2_clashes_62 : decode cX2_clashes 62 = .ok (.ireturn, 1) := by decide +kernel
set_option maxRecDepth 20000 in
theorem ggX2_touches_X2_holds : GoodIn wsX2_touches wsX2_holds := goodIn_r _ [7, 1, 2, 8, 9, 10, 6, 11, 12, 13, 14, 15] (by decide +kernel) (by decide +kernel)
set_option maxRecDepth 20000 in
theorem gX2_touches_X2_holds : GoodIn wsX2_touches (wsV RX2 36 RX2 yX2_holds wsX2_holds) := goodIn_app (goodIn_of _ (by decide +kernel)) ggX2_touches_X2_holds
theorem dX2_touches_0 : decode cX2_touches 0 = .ok (.aload_n 0, 1) := by decide +kernel
theorem dX2_touches_1 : decode cX2_touches 1 = .ok (.iload_n 1, 1) := by decide +kernel
theorem dX2_touches_2 : decode cX2_touches 2 = .ok (.aload_n 0, 1) := by decide +kernel
theorem dX2_touches_3 : decode cX2_touches 3 = .ok (.getfield 9, 3) := by decide +kernel
theorem dX2_touches_6 : decode cX2_touches 6 = .ok (.iconst 2, 1) := by decide +kernel
theorem dX2_touches_7 : decode cX2_touches 7 = .ok (.iload_n 2, 1) := by decide +kernel
theorem dX2_touches_8 : decode cX2_touches 8 = .ok (.imul, 1) := by decide +kernel
theorem dX2_touches_9 : decode cX2_touches 9 = .ok (.iaload, 1) := by decide +kernel
theorem dX2_touches_10 : decode cX2_touches 10 = .ok (.aload_n 0, 1) := by decide +kernel
theorem dX2_touches_11 : decode cX2_touches 11 = .ok (.getfield 15, 3) := by decide +kernel
theorem dX2_touches_14 : decode cX2_touches 14 = .ok (.iconst 2, 1) := by decide +kernel
theorem dX2_touches_15 : decode cX2_touches 15 = .ok (.iload_n 2, 1) := by decide +kernel
theorem dX2_touches_16 : decode cX2_touches 16 = .ok (.imul, 1) := by decide +kernel
theorem dX2_touches_17 : decode cX2_touches 17 = .ok (.iaload, 1) := by decide +kernel
theorem dX2_touches_18 : decode cX2_touches 18 = .ok (.invokevirtual 36, 3) := by decide +kernel
theorem dX2_touches_21 : decode cX2_touches 21 = .ok (.ifCond .ne 31, 3) := by decide +kernel
theorem dX2_touches_24 : decode cX2_touches 24 = .ok (.aload_n 0, 1) := by decide +kernel
theorem dX2_touches_25 : decode cX2_touches 25 = .ok (.iload_n 1, 1) := by decide +kernel
theorem dX2_touches_26 : decode cX2_touches 26 = .ok (.aload_n 0, 1) := by decide +kernel
theorem dX2_touches_27 : decode cX2_touches 27 = .ok (.getfield 9, 3) := by decide +kernel
theorem dX2_touches_30 : decode cX2_touches 30 = .ok (.iconst 2, 1) := by decide +kernel
theorem dX2_touches_31 : decode cX2_touches 31 = .ok (.iload_n 2, 1) := by decide +kernel
theorem dX2_touches_32 : decode cX2_touches 32 = .ok (.imul, 1) := by decide +kernel
theorem dX2_touches_33 : decode cX2_touches 33 = .ok (.iconst 1, 1) := by decide +kernel
theorem dX2_touches_34 : decode cX2_touches 34 = .ok (.iadd, 1) := by decide +kernel
theorem dX2_touches_35 : decode cX2_touches 35 = .ok (.iaload, 1) := by decide +kernel
theorem dX2_touches_36 : decode cX2_touches 36 = .ok (.aload_n 0, 1) := by decide +kernel
theorem dX2_touches_37 : decode cX2_touches 37 = .ok (.getfield 15, 3) := by decide +kernel
theorem dX2_touches_40 : decode cX2_touches 40 = .ok (.iconst 2, 1) := by decide +kernel
theorem dX2_touches_41 : decode cX2_touches 41 = .ok (.iload_n 2, 1) := by decide +kernel
theorem dX2_touches_42 : decode cX2_touches 42 = .ok (.imul, 1) := by decide +kernel
theorem dX2_touches_43 : decode cX2_touches 43 = .ok (.iconst 1, 1) := by decide +kernel
theorem dX2_touches_44 : decode cX2_touches 44 = .ok (.iadd, 1) := by decide +kernel
theorem dX2_touches_45 : decode cX2_touches 45 = .ok (.iaload, 1) := by decide +kernel
theorem dX2_touches_46 : decode cX2_touches 46 = .ok (.invokevirtual 36, 3) := by decide +kernel
theorem dX2_touches_49 : decode cX2_touches 49 = .ok (.ifCond .eq 7, 3) := by decide +kernel
theorem dX2_touches_52 : decode cX2_touches 52 = .ok (.iconst 1, 1) := by decide +kernel
theorem dX2_touches_53 : decode cX2_touches 53 = .ok (.goto 4, 3) := by decide +kernel
theorem dX2_touches_56 : decode cX2_touches 56 = .ok (.iconst 0, 1) := by decide +kernel
theorem dX2_touches_57 : decode cX2_touches 57 = .ok (.ireturn, 1) := by decide +kernel
set_option maxRecDepth 20000 in
theorem ggX2_sameEnds_X2_sameBegin : GoodIn wsX2_sameEnds wsX2_sameBegin := goodIn_r _ [5, 6, 7, 8, 9, 10, 11] (by decide +kernel) (by decide +kernel)
set_option maxRecDepth 20000 in
theorem gX2_sameEnds_X2_sameBegin : GoodIn wsX2_sameEnds (wsV RX2 40 RX2 yX2_sameBegin wsX2_sameBegin) := goodIn_app (goodIn_of _ (by decide +kernel)) ggX2_sameEnds_X2_sameBegin
theorem dX2_sameEnds_0 : decode cX2_sameEnds 0 = .ok (.aload_n 0, 1) := by decide +kernel
theorem dX2_sameEnds_1 : decode cX2_sameEnds 1 = .ok (.iconst 2, 1) := by decide +kernel
theorem dX2_sameEnds_2 : decode cX2_sameEnds 2 = .ok (.iload_n 1, 1) := by decide +kernel
theorem dX2_sameEnds_3 : decode cX2_sameEnds 3 = .ok (.imul, 1) := by decide +kernel
theorem dX2_sameEnds_4 : decode cX2_sameEnds 4 = .ok (.iconst 2, 1) := by decide +kernel
theorem dX2_sameEnds_5 : decode cX2_sameEnds 5 = .ok (.iload_n 2, 1) := by decide +kernel
theorem dX2_sameEnds_6 : decode cX2_sameEnds 6 = .ok (.imul, 1) := by decide +kernel
theorem dX2_sameEnds_7 : decode cX2_sameEnds 7 = .ok (.invokevirtual 40, 3) := by decide +kernel
theorem dX2_sameEnds_10 : decode cX2_sameEnds 10 = .ok (.ifCond .eq 20, 3) := by decide +kernel
theorem dX2_sameEnds_13 : decode cX2_sameEnds 13 = .ok (.aload_n 0, 1) := by decide +kernel
theorem dX2_sameEnds_14 : decode cX2_sameEnds 14 = .ok (.iconst 2, 1) := by decide +kernel
theorem dX2_sameEnds_15 : decode cX2_sameEnds 15 = .ok (.iload_n 1, 1) := by decide +kernel
theorem dX2_sameEnds_16 : decode cX2_sameEnds 16 = .ok (.imul, 1) := by decide +kernel
theorem dX2_sameEnds_17 : decode cX2_sameEnds 17 = .ok (.iconst 1, 1) := by decide +kernel
theorem dX2_sameEnds_18 : decode cX2_sameEnds 18 = .ok (.iadd, 1) := by decide +kernel
theorem dX2_sameEnds_19 : decode cX2_sameEnds 19 = .ok (.iconst 2, 1) := by decide +kernel
theorem dX2_sameEnds_20 : decode cX2_sameEnds 20 = .ok (.iload_n 2, 1) := by decide +kernel
theorem dX2_sameEnds_21 : decode cX2_sameEnds 21 = .ok (.imul, 1) := by decide +kernel
theorem dX2_sameEnds_22 : decode cX2_sameEnds 22 = .ok (.iconst 1, 1) := by decide +kernel
theorem dX2_sameEnds_23 : decode cX2_sameEnds 23 = .ok (.iadd, 1) := by decide +kernel
theorem dX2_sameEnds_24 : decode cX2_sameEnds 24 = .ok (.invokevirtual 40, 3) := by decide +kernel
theorem dX2_sameEnds_27 : decode cX2_sameEnds 27 = .ok (.ifCond .ne 33, 3) := by decide +kernel
theorem dX2_sameEnds_30 : decode cX2_sameEnds 30 = .ok (.aload_n 0, 1) := by decide +kernel
theorem dX2_sameEnds_31 : decode cX2_sameEnds 31 = .ok (.iconst 2, 1) := by decide +kernel
theorem dX2_sameEnds_32 : decode cX2_sameEnds 32 = .ok (.iload_n 1, 1) := by decide +kernel
theorem dX2_sameEnds_33 : decode cX2_sameEnds 33 = .ok (.imul, 1) := by decide +kernel
theorem dX2_sameEnds_34 : decode cX2_sameEnds 34 = .ok (.iconst 2, 1) := by decide +kernel
theorem dX2_sameEnds_35 : decode cX2_sameEnds 35 = .ok (.iload_n 2, 1) := by decide +kernel
theorem dX2_sameEnds_36 : decode cX2_sameEnds 36 = .ok (.imul, 1) := by decide +kernel
theorem dX2_sameEnds_37 : decode cX2_sameEnds 37 = .ok (.iconst 1, 1) := by decide +kernel
theorem dX2_sameEnds_38 : decode cX2_sameEnds 38 = .ok (.iadd, 1) := by decide +kernel
theorem dX2_sameEnds_39 : decode cX2_sameEnds 39 = .ok (.invokevirtual 40, 3) := by decide +kernel
theorem dX2_sameEnds_42 : decode cX2_sameEnds 42 = .ok (.ifCond .eq 22, 3) := by decide +kernel
theorem dX2_sameEnds_45 : decode cX2_sameEnds 45 = .ok (.aload_n 0, 1) := by decide +kernel
theorem dX2_sameEnds_46 : decode cX2_sameEnds 46 = .ok (.iconst 2, 1) := by decide +kernel
theorem dX2_sameEnds_47 : decode cX2_sameEnds 47 = .ok (.iload_n 1, 1) := by decide +kernel
theorem dX2_sameEnds_48 : decode cX2_sameEnds 48 = .ok (.imul, 1) := by decide +kernel
theorem dX2_sameEnds_49 : decode cX2_sameEnds 49 = .ok (.iconst 1, 1) := by decide +kernel
theorem dX2_sameEnds_50 : decode cX2_sameEnds 50 = .ok (.iadd, 1) := by decide +kernel
theorem dX2_sameEnds_51 : decode cX2_sameEnds 51 = .ok (.iconst 2, 1) := by decide +kernel
theorem dX2_sameEnds_52 : decode cX2_sameEnds 52 = .ok (.iload_n 2, 1) := by decide +kernel
theorem dX2_sameEnds_53 : decode cX2_sameEnds 53 = .ok (.imul, 1) := by decide +kernel
theorem dX2_sameEnds_54 : decode cX2_sameEnds 54 = .ok (.invokevirtual 40, 3) := by decide +kernel
theorem dX2_sameEnds_57 : decode cX2_sameEnds 57 = .ok (.ifCond .eq 7, 3) := by decide +kernel
theorem dX2_sameEnds_60 : decode cX2_sameEnds 60 = .ok (.iconst 1, 1) := by decide +kernel
theorem dX2_sameEnds_61 : decode cX2_sameEnds 61 = .ok (.goto 4, 3) := by decide +kernel
theorem dX2_sameEnds_64 : decode cX2_sameEnds 64 = .ok (.iconst 0, 1) := by decide +kernel
theorem dX2_sameEnds_65 : decode cX2_sameEnds 65 = .ok (.ireturn, 1) := by decide +kernel
set_option maxRecDepth 20000 in
theorem ggX2_crosses_X2_parts : GoodIn wsX2_crosses wsX2_parts := goodIn_r _ [5, 6, 7, 8, 9, 10, 4, 11, 12, 13, 14, 15] (by decide +kernel) (by decide +kernel)
set_option maxRecDepth 20000 in
theorem gX2_crosses_X2_parts : GoodIn wsX2_crosses (wsV RX2 43 RX2 yX2_parts wsX2_parts) := goodIn_app (goodIn_of _ (by decide +kernel)) ggX2_crosses_X2_parts
theorem dX2_crosses_0 : decode cX2_crosses 0 = .ok (.aload_n 0, 1) := by decide +kernel
theorem dX2_crosses_1 : decode cX2_crosses 1 = .ok (.iconst 2, 1) := by decide +kernel
theorem dX2_crosses_2 : decode cX2_crosses 2 = .ok (.iload_n 1, 1) := by decide +kernel
theorem dX2_crosses_3 : decode cX2_crosses 3 = .ok (.imul, 1) := by decide +kernel
theorem dX2_crosses_4 : decode cX2_crosses 4 = .ok (.iconst 2, 1) := by decide +kernel
theorem dX2_crosses_5 : decode cX2_crosses 5 = .ok (.iload_n 2, 1) := by decide +kernel
theorem dX2_crosses_6 : decode cX2_crosses 6 = .ok (.imul, 1) := by decide +kernel
theorem dX2_crosses_7 : decode cX2_crosses 7 = .ok (.invokevirtual 43, 3) := by decide +kernel
theorem dX2_crosses_10 : decode cX2_crosses 10 = .ok (.ifCond .eq 20, 3) := by decide +kernel
theorem dX2_crosses_13 : decode cX2_crosses 13 = .ok (.aload_n 0, 1) := by decide +kernel
theorem dX2_crosses_14 : decode cX2_crosses 14 = .ok (.iconst 2, 1) := by decide +kernel
theorem dX2_crosses_15 : decode cX2_crosses 15 = .ok (.iload_n 2, 1) := by decide +kernel
theorem dX2_crosses_16 : decode cX2_crosses 16 = .ok (.imul, 1) := by decide +kernel
theorem dX2_crosses_17 : decode cX2_crosses 17 = .ok (.iconst 2, 1) := by decide +kernel
theorem dX2_crosses_18 : decode cX2_crosses 18 = .ok (.iload_n 1, 1) := by decide +kernel
theorem dX2_crosses_19 : decode cX2_crosses 19 = .ok (.imul, 1) := by decide +kernel
theorem dX2_crosses_20 : decode cX2_crosses 20 = .ok (.invokevirtual 43, 3) := by decide +kernel
theorem dX2_crosses_23 : decode cX2_crosses 23 = .ok (.ifCond .eq 7, 3) := by decide +kernel
theorem dX2_crosses_26 : decode cX2_crosses 26 = .ok (.iconst 1, 1) := by decide +kernel
theorem dX2_crosses_27 : decode cX2_crosses 27 = .ok (.goto 4, 3) := by decide +kernel
theorem dX2_crosses_30 : decode cX2_crosses 30 = .ok (.iconst 0, 1) := by decide +kernel
theorem dX2_crosses_31 : decode cX2_crosses 31 = .ok (.ireturn, 1) := by decide +kernel
set_option maxRecDepth 20000 in
theorem ggX2_parts_X2_side : GoodIn wsX2_parts wsX2_side := goodIn_r _ [7, 1, 2, 8, 9, 10, 11] (by decide +kernel) (by decide +kernel)
set_option maxRecDepth 20000 in
theorem gX2_parts_X2_side : GoodIn wsX2_parts (wsV RX2 46 RX2 yX2_side wsX2_side) := goodIn_app (goodIn_of _ (by decide +kernel)) ggX2_parts_X2_side
theorem dX2_parts_0 : decode cX2_parts 0 = .ok (.aload_n 0, 1) := by decide +kernel
theorem dX2_parts_1 : decode cX2_parts 1 = .ok (.iload_n 1, 1) := by decide +kernel
theorem dX2_parts_2 : decode cX2_parts 2 = .ok (.aload_n 0, 1) := by decide +kernel
theorem dX2_parts_3 : decode cX2_parts 3 = .ok (.getfield 9, 3) := by decide +kernel
theorem dX2_parts_6 : decode cX2_parts 6 = .ok (.iload_n 2, 1) := by decide +kernel
theorem dX2_parts_7 : decode cX2_parts 7 = .ok (.iaload, 1) := by decide +kernel
theorem dX2_parts_8 : decode cX2_parts 8 = .ok (.aload_n 0, 1) := by decide +kernel
theorem dX2_parts_9 : decode cX2_parts 9 = .ok (.getfield 15, 3) := by decide +kernel
theorem dX2_parts_12 : decode cX2_parts 12 = .ok (.iload_n 2, 1) := by decide +kernel
theorem dX2_parts_13 : decode cX2_parts 13 = .ok (.iaload, 1) := by decide +kernel
theorem dX2_parts_14 : decode cX2_parts 14 = .ok (.invokevirtual 46, 3) := by decide +kernel
theorem dX2_parts_17 : decode cX2_parts 17 = .ok (.lstore_n 3, 1) := by decide +kernel
theorem dX2_parts_18 : decode cX2_parts 18 = .ok (.aload_n 0, 1) := by decide +kernel
theorem dX2_parts_19 : decode cX2_parts 19 = .ok (.iload_n 1, 1) := by decide +kernel
theorem dX2_parts_20 : decode cX2_parts 20 = .ok (.aload_n 0, 1) := by decide +kernel
theorem dX2_parts_21 : decode cX2_parts 21 = .ok (.getfield 9, 3) := by decide +kernel
theorem dX2_parts_24 : decode cX2_parts 24 = .ok (.iload_n 2, 1) := by decide +kernel
theorem dX2_parts_25 : decode cX2_parts 25 = .ok (.iconst 1, 1) := by decide +kernel
theorem dX2_parts_26 : decode cX2_parts 26 = .ok (.ixor, 1) := by decide +kernel
theorem dX2_parts_27 : decode cX2_parts 27 = .ok (.iaload, 1) := by decide +kernel
theorem dX2_parts_28 : decode cX2_parts 28 = .ok (.aload_n 0, 1) := by decide +kernel
theorem dX2_parts_29 : decode cX2_parts 29 = .ok (.getfield 15, 3) := by decide +kernel
theorem dX2_parts_32 : decode cX2_parts 32 = .ok (.iload_n 2, 1) := by decide +kernel
theorem dX2_parts_33 : decode cX2_parts 33 = .ok (.iconst 1, 1) := by decide +kernel
theorem dX2_parts_34 : decode cX2_parts 34 = .ok (.ixor, 1) := by decide +kernel
theorem dX2_parts_35 : decode cX2_parts 35 = .ok (.iaload, 1) := by decide +kernel
theorem dX2_parts_36 : decode cX2_parts 36 = .ok (.invokevirtual 46, 3) := by decide +kernel
theorem dX2_parts_39 : decode cX2_parts 39 = .ok (.lstore 5, 2) := by decide +kernel
theorem dX2_parts_41 : decode cX2_parts 41 = .ok (.lload_n 3, 1) := by decide +kernel
theorem dX2_parts_42 : decode cX2_parts 42 = .ok (.lconst 0, 1) := by decide +kernel
theorem dX2_parts_43 : decode cX2_parts 43 = .ok (.lcmp, 1) := by decide +kernel
theorem dX2_parts_44 : decode cX2_parts 44 = .ok (.ifCond .ge 10, 3) := by decide +kernel
theorem dX2_parts_47 : decode cX2_parts 47 = .ok (.lload 5, 2) := by decide +kernel
theorem dX2_parts_49 : decode cX2_parts 49 = .ok (.lconst 0, 1) := by decide +kernel
theorem dX2_parts_50 : decode cX2_parts 50 = .ok (.lcmp, 1) := by decide +kernel
theorem dX2_parts_51 : decode cX2_parts 51 = .ok (.ifCond .gt 16, 3) := by decide +kernel
theorem dX2_parts_54 : decode cX2_parts 54 = .ok (.lload_n 3, 1) := by decide +kernel
theorem dX2_parts_55 : decode cX2_parts 55 = .ok (.lconst 0, 1) := by decide +kernel
theorem dX2_parts_56 : decode cX2_parts 56 = .ok (.lcmp, 1) := by decide +kernel
theorem dX2_parts_57 : decode cX2_parts 57 = .ok (.ifCond .le 14, 3) := by decide +kernel
theorem dX2_parts_60 : decode cX2_parts 60 = .ok (.lload 5, 2) := by decide +kernel
theorem dX2_parts_62 : decode cX2_parts 62 = .ok (.lconst 0, 1) := by decide +kernel
theorem dX2_parts_63 : decode cX2_parts 63 = .ok (.lcmp, 1) := by decide +kernel
theorem dX2_parts_64 : decode cX2_parts 64 = .ok (.ifCond .ge 7, 3) := by decide +kernel
theorem dX2_parts_67 : decode cX2_parts 67 = .ok (.iconst 1, 1) := by decide +kernel
theorem dX2_parts_68 : decode cX2_parts 68 = .ok (.goto 4, 3) := by decide +kernel
theorem dX2_parts_71 : decode cX2_parts 71 = .ok (.iconst 0, 1) := by decide +kernel
theorem dX2_parts_72 : decode cX2_parts 72 = .ok (.ireturn, 1) := by decide +kernel
theorem dX2_sameBegin_0 : decode cX2_sameBegin 0 = .ok (.aload_n 0, 1) := by decide +kernel
theorem dX2_sameBegin_1 : decode cX2_sameBegin 1 = .ok (.getfield 9, 3) := by decide +kernel
theorem dX2_sameBegin_4 : decode cX2_sameBegin 4 = .ok (.iload_n 1, 1) := by decide +kernel
theorem dX2_sameBegin_5 : decode cX2_sameBegin 5 = .ok (.iaload, 1) := by decide +kernel
theorem dX2_sameBegin_6 : decode cX2_sameBegin 6 = .ok (.aload_n 0, 1) := by decide +kernel
theorem dX2_sameBegin_7 : decode cX2_sameBegin 7 = .ok (.getfield 9, 3) := by decide +kernel
theorem dX2_sameBegin_10 : decode cX2_sameBegin 10 = .ok (.iload_n 2, 1) := by decide +kernel
theorem dX2_sameBegin_11 : decode cX2_sameBegin 11 = .ok (.iaload, 1) := by decide +kernel
theorem dX2_sameBegin_12 : decode cX2_sameBegin 12 = .ok (.if_icmp .ne 22, 3) := by decide +kernel
theorem dX2_sameBegin_15 : decode cX2_sameBegin 15 = .ok (.aload_n 0, 1) := by decide +kernel
theorem dX2_sameBegin_16 : decode cX2_sameBegin 16 = .ok (.getfield 15, 3) := by decide +kernel
theorem dX2_sameBegin_19 : decode cX2_sameBegin 19 = .ok (.iload_n 1, 1) := by decide +kernel
theorem dX2_sameBegin_20 : decode cX2_sameBegin 20 = .ok (.iaload, 1) := by decide +kernel
theorem dX2_sameBegin_21 : decode cX2_sameBegin 21 = .ok (.aload_n 0, 1) := by decide +kernel
theorem dX2_sameBegin_22 : decode cX2_sameBegin 22 = .ok (.getfield 15, 3) := by decide +kernel
theorem dX2_sameBegin_25 : decode cX2_sameBegin 25 = .ok (.iload_n 2, 1) := by decide +kernel
theorem dX2_sameBegin_26 : decode cX2_sameBegin 26 = .ok (.iaload, 1) := by decide +kernel
theorem dX2_sameBegin_27 : decode cX2_sameBegin 27 = .ok (.if_icmp .ne 7, 3) := by decide +kernel
theorem dX2_sameBegin_30 : decode cX2_sameBegin 30 = .ok (.iconst 1, 1) := by decide +kernel
theorem dX2_sameBegin_31 : decode cX2_sameBegin 31 = .ok (.goto 4, 3) := by decide +kernel
theorem dX2_sameBegin_34 : decode cX2_sameBegin 34 = .ok (.iconst 0, 1) := by decide +kernel
theorem dX2_sameBegin_35 : decode cX2_sameBegin 35 = .ok (.ireturn, 1) := by decide +kernel
theorem dX2_side_0 : decode cX2_side 0 = .ok (.aload_n 0, 1) := by decide +kernel
theorem dX2_side_1 : decode cX2_side 1 = .ok (.getfield 9, 3) := by decide +kernel
theorem dX2_side_4 : decode cX2_side 4 = .ok (.iload_n 1, 1) := by decide +kernel
theorem dX2_side_5 : decode cX2_side 5 = .ok (.iconst 1, 1) := by decide +kernel
theorem dX2_side_6 : decode cX2_side 6 = .ok (.ixor, 1) := by decide +kernel
theorem dX2_side_7 : decode cX2_side 7 = .ok (.iaload, 1) := by decide +kernel
theorem dX2_side_8 : decode cX2_side 8 = .ok (.aload_n 0, 1) := by decide +kernel
theorem dX2_side_9 : decode cX2_side 9 = .ok (.getfield 9, 3) := by decide +kernel
theorem dX2_side_12 : decode cX2_side 12 = .ok (.iload_n 1, 1) := by decide +kernel
theorem dX2_side_13 : decode cX2_side 13 = .ok (.iaload, 1) := by decide +kernel
theorem dX2_side_14 : decode cX2_side 14 = .ok (.isub, 1) := by decide +kernel
theorem dX2_side_15 : decode cX2_side 15 = .ok (.i2l, 1) := by decide +kernel
theorem dX2_side_16 : decode cX2_side 16 = .ok (.lstore 4, 2) := by decide +kernel
theorem dX2_side_18 : decode cX2_side 18 = .ok (.aload_n 0, 1) := by decide +kernel
theorem dX2_side_19 : decode cX2_side 19 = .ok (.getfield 15, 3) := by decide +kernel
theorem dX2_side_22 : decode cX2_side 22 = .ok (.iload_n 1, 1) := by decide +kernel
theorem dX2_side_23 : decode cX2_side 23 = .ok (.iconst 1, 1) := by decide +kernel
theorem dX2_side_24 : decode cX2_side 24 = .ok (.ixor, 1) := by decide +kernel
theorem dX2_side_25 : decode cX2_side 25 = .ok (.iaload, 1) := by decide +kernel
theorem dX2_side_26 : decode cX2_side 26 = .ok (.aload_n 0, 1) := by decide +kernel
theorem dX2_side_27 : decode cX2_side 27 = .ok (.getfield 15, 3) := by decide +kernel
theorem dX2_side_30 : decode cX2_side 30 = .ok (.iload_n 1, 1) := by decide +kernel
theorem dX2_side_31 : decode cX2_side 31 = .ok (.iaload, 1) := by decide +kernel
theorem dX2_side_32 : decode cX2_side 32 = .ok (.isub, 1) := by decide +kernel
theorem dX2_side_33 : decode cX2_side 33 = .ok (.i2l, 1) := by decide +kernel
theorem dX2_side_34 : decode cX2_side 34 = .ok (.lstore 6, 2) := by decide +kernel
theorem dX2_side_36 : decode cX2_side 36 = .ok (.lload 4, 2) := by decide +kernel
theorem dX2_side_38 : decode cX2_side 38 = .ok (.iload_n 3, 1) := by decide +kernel
theorem dX2_side_39 : decode cX2_side 39 = .ok (.aload_n 0, 1) := by decide +kernel
theorem dX2_side_40 : decode cX2_side 40 = .ok (.getfield 15, 3) := by decide +kernel
theorem dX2_side_43 : decode cX2_side 43 = .ok (.iload_n 1, 1) := by decide +kernel
theorem dX2_side_44 : decode cX2_side 44 = .ok (.iaload, 1) := by decide +kernel
theorem dX2_side_45 : decode cX2_side 45 = .ok (.isub, 1) := by decide +kernel
theorem dX2_side_46 : decode cX2_side 46 = .ok (.i2l, 1) := by decide +kernel
theorem dX2_side_47 : decode cX2_side 47 = .ok (.lmul, 1) := by decide +kernel
theorem dX2_side_48 : decode cX2_side 48 = .ok (.lload 6, 2) := by decide +kernel
theorem dX2_side_50 : decode cX2_side 50 = .ok (.iload_n 2, 1) := by decide +kernel
theorem dX2_side_51 : decode cX2_side 51 = .ok (.aload_n 0, 1) := by decide +kernel
theorem dX2_side_52 : decode cX2_side 52 = .ok (.getfield 9, 3) := by decide +kernel
theorem dX2_side_55 : decode cX2_side 55 = .ok (.iload_n 1, 1) := by decide +kernel
theorem dX2_side_56 : decode cX2_side 56 = .ok (.iaload, 1) := by decide +kernel
theorem dX2_side_57 : decode cX2_side 57 = .ok (.isub, 1) := by decide +kernel
theorem dX2_side_58 : decode cX2_side 58 = .ok (.i2l, 1) := by decide +kernel
theorem dX2_side_59 : decode cX2_side 59 = .ok (.lmul, 1) := by decide +kernel
theorem dX2_side_60 : decode cX2_side 60 = .ok (.lsub, 1) := by decide +kernel
theorem dX2_side_61 : decode cX2_side 61 = .ok (.lreturn, 1) := by decide +kernel
set_option maxRecDepth 20000 in
theorem ggX2_holds_X2_side : GoodIn wsX2_holds wsX2_side := goodIn_r _ [7, 1, 2, 8, 9, 10, 11] (by decide +kernel) (by decide +kernel)
set_option maxRecDepth 20000 in
theorem gX2_holds_X2_side : GoodIn wsX2_holds (wsV RX2 46 RX2 yX2_side wsX2_side) := goodIn_app (goodIn_of _ (by decide +kernel)) ggX2_holds_X2_side
theorem dX2_holds_0 : decode cX2_holds 0 = .ok (.aload_n 0, 1) := by decide +kernel
theorem dX2_holds_1 : decode cX2_holds 1 = .ok (.iconst 2, 1) := by decide +kernel
theorem dX2_holds_2 : decode cX2_holds 2 = .ok (.iload_n 1, 1) := by decide +kernel
theorem dX2_holds_3 : decode cX2_holds 3 = .ok (.imul, 1) := by decide +kernel
theorem dX2_holds_4 : decode cX2_holds 4 = .ok (.iload_n 2, 1) := by decide +kernel
theorem dX2_holds_5 : decode cX2_holds 5 = .ok (.iload_n 3, 1) := by decide +kernel
theorem dX2_holds_6 : decode cX2_holds 6 = .ok (.invokevirtual 46, 3) := by decide +kernel
theorem dX2_holds_9 : decode cX2_holds 9 = .ok (.lconst 0, 1) := by decide +kernel
theorem dX2_holds_10 : decode cX2_holds 10 = .ok (.lcmp, 1) := by decide +kernel
theorem dX2_holds_11 : decode cX2_holds 11 = .ok (.ifCond .eq 5, 3) := by decide +kernel
theorem dX2_holds_14 : decode cX2_holds 14 = .ok (.iconst 0, 1) := by decide +kernel
theorem dX2_holds_15 : decode cX2_holds 15 = .ok (.ireturn, 1) := by decide +kernel
theorem dX2_holds_16 : decode cX2_holds 16 = .ok (.aload_n 0, 1) := by decide +kernel
theorem dX2_holds_17 : decode cX2_holds 17 = .ok (.getfield 9, 3) := by decide +kernel
theorem dX2_holds_20 : decode cX2_holds 20 = .ok (.iconst 2, 1) := by decide +kernel
theorem dX2_holds_21 : decode cX2_holds 21 = .ok (.iload_n 1, 1) := by decide +kernel
theorem dX2_holds_22 : decode cX2_holds 22 = .ok (.imul, 1) := by decide +kernel
theorem dX2_holds_23 : decode cX2_holds 23 = .ok (.iaload, 1) := by decide +kernel
theorem dX2_holds_24 : decode cX2_holds 24 = .ok (.iload_n 2, 1) := by decide +kernel
theorem dX2_holds_25 : decode cX2_holds 25 = .ok (.isub, 1) := by decide +kernel
theorem dX2_holds_26 : decode cX2_holds 26 = .ok (.i2l, 1) := by decide +kernel
theorem dX2_holds_27 : decode cX2_holds 27 = .ok (.lstore 4, 2) := by decide +kernel
theorem dX2_holds_29 : decode cX2_holds 29 = .ok (.aload_n 0, 1) := by decide +kernel
theorem dX2_holds_30 : decode cX2_holds 30 = .ok (.getfield 15, 3) := by decide +kernel
theorem dX2_holds_33 : decode cX2_holds 33 = .ok (.iconst 2, 1) := by decide +kernel
theorem dX2_holds_34 : decode cX2_holds 34 = .ok (.iload_n 1, 1) := by decide +kernel
theorem dX2_holds_35 : decode cX2_holds 35 = .ok (.imul, 1) := by decide +kernel
theorem dX2_holds_36 : decode cX2_holds 36 = .ok (.iaload, 1) := by decide +kernel
theorem dX2_holds_37 : decode cX2_holds 37 = .ok (.iload_n 3, 1) := by decide +kernel
theorem dX2_holds_38 : decode cX2_holds 38 = .ok (.isub, 1) := by decide +kernel
theorem dX2_holds_39 : decode cX2_holds 39 = .ok (.i2l, 1) := by decide +kernel
theorem dX2_holds_40 : decode cX2_holds 40 = .ok (.lstore 6, 2) := by decide +kernel
theorem dX2_holds_42 : decode cX2_holds 42 = .ok (.lload 4, 2) := by decide +kernel
theorem dX2_holds_44 : decode cX2_holds 44 = .ok (.aload_n 0, 1) := by decide +kernel
theorem dX2_holds_45 : decode cX2_holds 45 = .ok (.getfield 9, 3) := by decide +kernel
theorem dX2_holds_48 : decode cX2_holds 48 = .ok (.iconst 2, 1) := by decide +kernel
theorem dX2_holds_49 : decode cX2_holds 49 = .ok (.iload_n 1, 1) := by decide +kernel
theorem dX2_holds_50 : decode cX2_holds 50 = .ok (.imul, 1) := by decide +kernel
theorem dX2_holds_51 : decode cX2_holds 51 = .ok (.iconst 1, 1) := by decide +kernel
theorem dX2_holds_52 : decode cX2_holds 52 = .ok (.iadd, 1) := by decide +kernel
theorem dX2_holds_53 : decode cX2_holds 53 = .ok (.iaload, 1) := by decide +kernel
theorem dX2_holds_54 : decode cX2_holds 54 = .ok (.iload_n 2, 1) := by decide +kernel
theorem dX2_holds_55 : decode cX2_holds 55 = .ok (.isub, 1) := by decide +kernel
theorem dX2_holds_56 : decode cX2_holds 56 = .ok (.i2l, 1) := by decide +kernel
theorem dX2_holds_57 : decode cX2_holds 57 = .ok (.lmul, 1) := by decide +kernel
theorem dX2_holds_58 : decode cX2_holds 58 = .ok (.lload 6, 2) := by decide +kernel
theorem dX2_holds_60 : decode cX2_holds 60 = .ok (.aload_n 0, 1) := by decide +kernel
theorem dX2_holds_61 : decode cX2_holds 61 = .ok (.getfield 15, 3) := by decide +kernel
theorem dX2_holds_64 : decode cX2_holds 64 = .ok (.iconst 2, 1) := by decide +kernel
theorem dX2_holds_65 : decode cX2_holds 65 = .ok (.iload_n 1, 1) := by decide +kernel
theorem dX2_holds_66 : decode cX2_holds 66 = .ok (.imul, 1) := by decide +kernel
theorem dX2_holds_67 : decode cX2_holds 67 = .ok (.iconst 1, 1) := by decide +kernel
theorem dX2_holds_68 : decode cX2_holds 68 = .ok (.iadd, 1) := by decide +kernel
theorem dX2_holds_69 : decode cX2_holds 69 = .ok (.iaload, 1) := by decide +kernel
theorem dX2_holds_70 : decode cX2_holds 70 = .ok (.iload_n 3, 1) := by decide +kernel
theorem dX2_holds_71 : decode cX2_holds 71 = .ok (.isub, 1) := by decide +kernel
theorem dX2_holds_72 : decode cX2_holds 72 = .ok (.i2l, 1) := by decide +kernel
theorem dX2_holds_73 : decode cX2_holds 73 = .ok (.lmul, 1) := by decide +kernel
theorem dX2_holds_74 : decode cX2_holds 74 = .ok (.ladd, 1) := by decide +kernel
theorem dX2_holds_75 : decode cX2_holds 75 = .ok (.lconst 0, 1) := by decide +kernel
theorem dX2_holds_76 : decode cX2_holds 76 = .ok (.lcmp, 1) := by decide +kernel
theorem dX2_holds_77 : decode cX2_holds 77 = .ok (.ifCond .ge 7, 3) := by decide +kernel
theorem dX2_holds_80 : decode cX2_holds 80 = .ok (.iconst 1, 1) := by decide +kernel
theorem dX2_holds_81 : decode cX2_holds 81 = .ok (.goto 4, 3) := by decide +kernel
theorem dX2_holds_84 : decode cX2_holds 84 = .ok (.iconst 0, 1) := by decide +kernel
theorem dX2_holds_85 : decode cX2_holds 85 = .ok (.ireturn, 1) := by decide +kernel
theorem dX2_leastHalfAt_0 : decode cX2_leastHalfAt 0 = .ok (.iconst 0, 1) := by decide +kernel
theorem dX2_leastHalfAt_1 : decode cX2_leastHalfAt 1 = .ok (.istore_n 3, 1) := by decide +kernel
theorem dX2_leastHalfAt_2 : decode cX2_leastHalfAt 2 = .ok (.iload_n 3, 1) := by decide +kernel
theorem dX2_leastHalfAt_3 : decode cX2_leastHalfAt 3 = .ok (.bipush 120, 2) := by decide +kernel
theorem dX2_leastHalfAt_5 : decode cX2_leastHalfAt 5 = .ok (.if_icmp .ge 42, 3) := by decide +kernel
theorem dX2_leastHalfAt_8 : decode cX2_leastHalfAt 8 = .ok (.aload_n 0, 1) := by decide +kernel
theorem dX2_leastHalfAt_9 : decode cX2_leastHalfAt 9 = .ok (.getfield 18, 3) := by decide +kernel
theorem dX2_leastHalfAt_12 : decode cX2_leastHalfAt 12 = .ok (.iload_n 3, 1) := by decide +kernel
theorem dX2_leastHalfAt_13 : decode cX2_leastHalfAt 13 = .ok (.iconst 1, 1) := by decide +kernel
theorem dX2_leastHalfAt_14 : decode cX2_leastHalfAt 14 = .ok (.ishr, 1) := by decide +kernel
theorem dX2_leastHalfAt_15 : decode cX2_leastHalfAt 15 = .ok (.baload, 1) := by decide +kernel
theorem dX2_leastHalfAt_16 : decode cX2_leastHalfAt 16 = .ok (.ifCond .eq 25, 3) := by decide +kernel
theorem dX2_leastHalfAt_19 : decode cX2_leastHalfAt 19 = .ok (.aload_n 0, 1) := by decide +kernel
theorem dX2_leastHalfAt_20 : decode cX2_leastHalfAt 20 = .ok (.getfield 9, 3) := by decide +kernel
theorem dX2_leastHalfAt_23 : decode cX2_leastHalfAt 23 = .ok (.iload_n 3, 1) := by decide +kernel
theorem dX2_leastHalfAt_24 : decode cX2_leastHalfAt 24 = .ok (.iaload, 1) := by decide +kernel
theorem dX2_leastHalfAt_25 : decode cX2_leastHalfAt 25 = .ok (.iload_n 1, 1) := by decide +kernel
theorem dX2_leastHalfAt_26 : decode cX2_leastHalfAt 26 = .ok (.if_icmp .ne 15, 3) := by decide +kernel
theorem dX2_leastHalfAt_29 : decode cX2_leastHalfAt 29 = .ok (.aload_n 0, 1) := by decide +kernel
theorem dX2_leastHalfAt_30 : decode cX2_leastHalfAt 30 = .ok (.getfield 15, 3) := by decide +kernel
theorem dX2_leastHalfAt_33 : decode cX2_leastHalfAt 33 = .ok (.iload_n 3, 1) := by decide +kernel
theorem dX2_leastHalfAt_34 : decode cX2_leastHalfAt 34 = .ok (.iaload, 1) := by decide +kernel
theorem dX2_leastHalfAt_35 : decode cX2_leastHalfAt 35 = .ok (.iload_n 2, 1) := by decide +kernel
theorem dX2_leastHalfAt_36 : decode cX2_leastHalfAt 36 = .ok (.if_icmp .ne 5, 3) := by decide +kernel
theorem dX2_leastHalfAt_39 : decode cX2_leastHalfAt 39 = .ok (.iload_n 3, 1) := by decide +kernel
theorem dX2_leastHalfAt_40 : decode cX2_leastHalfAt 40 = .ok (.ireturn, 1) := by decide +kernel
theorem dX2_leastHalfAt_41 : decode cX2_leastHalfAt 41 = .ok (.iinc 3 1, 3) := by decide +kernel
theorem dX2_leastHalfAt_44 : decode cX2_leastHalfAt 44 = .ok (.goto (-42), 3) := by decide +kernel
theorem dX2_leastHalfAt_47 : decode cX2_leastHalfAt 47 = .ok (.iconst (-1), 1) := by decide +kernel
theorem dX2_leastHalfAt_48 : decode cX2_leastHalfAt 48 = .ok (.ireturn, 1) := by decide +kernel
set_option maxRecDepth 20000 in
theorem ggX2_segmentThrough_X2_holds : GoodIn wsX2_segmentThrough wsX2_holds := goodIn_r _ [6, 7, 8, 9, 10, 11, 5, 12, 13, 14, 15, 16] (by decide +kernel) (by decide +kernel)
set_option maxRecDepth 20000 in
theorem gX2_segmentThrough_X2_holds : GoodIn wsX2_segmentThrough (wsV RX2 36 RX2 yX2_holds wsX2_holds) := goodIn_app (goodIn_of _ (by decide +kernel)) ggX2_segmentThrough_X2_holds
theorem dX2_segmentThrough_0 : decode cX2_segmentThrough 0 = .ok (.iconst 0, 1) := by decide +kernel
theorem dX2_segmentThrough_1 : decode cX2_segmentThrough 1 = .ok (.istore_n 3, 1) := by decide +kernel
theorem dX2_segmentThrough_2 : decode cX2_segmentThrough 2 = .ok (.iload_n 3, 1) := by decide +kernel
theorem dX2_segmentThrough_3 : decode cX2_segmentThrough 3 = .ok (.bipush 60, 2) := by decide +kernel
theorem dX2_segmentThrough_5 : decode cX2_segmentThrough 5 = .ok (.if_icmp .ge 30, 3) := by decide +kernel
theorem dX2_segmentThrough_8 : decode cX2_segmentThrough 8 = .ok (.aload_n 0, 1) := by decide +kernel
theorem dX2_segmentThrough_9 : decode cX2_segmentThrough 9 = .ok (.getfield 18, 3) := by decide +kernel
theorem dX2_segmentThrough_12 : decode cX2_segmentThrough 12 = .ok (.iload_n 3, 1) := by decide +kernel
theorem dX2_segmentThrough_13 : decode cX2_segmentThrough 13 = .ok (.baload, 1) := by decide +kernel
theorem dX2_segmentThrough_14 : decode cX2_segmentThrough 14 = .ok (.ifCond .eq 15, 3) := by decide +kernel
theorem dX2_segmentThrough_17 : decode cX2_segmentThrough 17 = .ok (.aload_n 0, 1) := by decide +kernel
theorem dX2_segmentThrough_18 : decode cX2_segmentThrough 18 = .ok (.iload_n 3, 1) := by decide +kernel
theorem dX2_segmentThrough_19 : decode cX2_segmentThrough 19 = .ok (.iload_n 1, 1) := by decide +kernel
theorem dX2_segmentThrough_20 : decode cX2_segmentThrough 20 = .ok (.iload_n 2, 1) := by decide +kernel
theorem dX2_segmentThrough_21 : decode cX2_segmentThrough 21 = .ok (.invokevirtual 36, 3) := by decide +kernel
theorem dX2_segmentThrough_24 : decode cX2_segmentThrough 24 = .ok (.ifCond .eq 5, 3) := by decide +kernel
theorem dX2_segmentThrough_27 : decode cX2_segmentThrough 27 = .ok (.iload_n 3, 1) := by decide +kernel
theorem dX2_segmentThrough_28 : decode cX2_segmentThrough 28 = .ok (.ireturn, 1) := by decide +kernel
theorem dX2_segmentThrough_29 : decode cX2_segmentThrough 29 = .ok (.iinc 3 1, 3) := by decide +kernel
theorem dX2_segmentThrough_32 : decode cX2_segmentThrough 32 = .ok (.goto (-30), 3) := by decide +kernel
theorem dX2_segmentThrough_35 : decode cX2_segmentThrough 35 = .ok (.iconst (-1), 1) := by decide +kernel
theorem dX2_segmentThrough_36 : decode cX2_segmentThrough 36 = .ok (.ireturn, 1) := by decide +kernel
theorem dX2_turn_0 : decode cX2_turn 0 = .ok (.aload_n 0, 1) := by decide +kernel
theorem dX2_turn_1 : decode cX2_turn 1 = .ok (.getfield 9, 3) := by decide +kernel
theorem dX2_turn_4 : decode cX2_turn 4 = .ok (.iload_n 1, 1) := by decide +kernel
theorem dX2_turn_5 : decode cX2_turn 5 = .ok (.iconst 1, 1) := by decide +kernel
theorem dX2_turn_6 : decode cX2_turn 6 = .ok (.ixor, 1) := by decide +kernel
theorem dX2_turn_7 : decode cX2_turn 7 = .ok (.iaload, 1) := by decide +kernel
theorem dX2_turn_8 : decode cX2_turn 8 = .ok (.aload_n 0, 1) := by decide +kernel
theorem dX2_turn_9 : decode cX2_turn 9 = .ok (.getfield 9, 3) := by decide +kernel
theorem dX2_turn_12 : decode cX2_turn 12 = .ok (.iload_n 1, 1) := by decide +kernel
theorem dX2_turn_13 : decode cX2_turn 13 = .ok (.iaload, 1) := by decide +kernel
theorem dX2_turn_14 : decode cX2_turn 14 = .ok (.isub, 1) := by decide +kernel
theorem dX2_turn_15 : decode cX2_turn 15 = .ok (.i2l, 1) := by decide +kernel
theorem dX2_turn_16 : decode cX2_turn 16 = .ok (.lstore_n 3, 1) := by decide +kernel
theorem dX2_turn_17 : decode cX2_turn 17 = .ok (.aload_n 0, 1) := by decide +kernel
theorem dX2_turn_18 : decode cX2_turn 18 = .ok (.getfield 15, 3) := by decide +kernel
theorem dX2_turn_21 : decode cX2_turn 21 = .ok (.iload_n 1, 1) := by decide +kernel
theorem dX2_turn_22 : decode cX2_turn 22 = .ok (.iconst 1, 1) := by decide +kernel
theorem dX2_turn_23 : decode cX2_turn 23 = .ok (.ixor, 1) := by decide +kernel
theorem dX2_turn_24 : decode cX2_turn 24 = .ok (.iaload, 1) := by decide +kernel
theorem dX2_turn_25 : decode cX2_turn 25 = .ok (.aload_n 0, 1) := by decide +kernel
theorem dX2_turn_26 : decode cX2_turn 26 = .ok (.getfield 15, 3) := by decide +kernel
theorem dX2_turn_29 : decode cX2_turn 29 = .ok (.iload_n 1, 1) := by decide +kernel
theorem dX2_turn_30 : decode cX2_turn 30 = .ok (.iaload, 1) := by decide +kernel
theorem dX2_turn_31 : decode cX2_turn 31 = .ok (.isub, 1) := by decide +kernel
theorem dX2_turn_32 : decode cX2_turn 32 = .ok (.i2l, 1) := by decide +kernel
theorem dX2_turn_33 : decode cX2_turn 33 = .ok (.lstore 5, 2) := by decide +kernel
theorem dX2_turn_35 : decode cX2_turn 35 = .ok (.lload_n 3, 1) := by decide +kernel
theorem dX2_turn_36 : decode cX2_turn 36 = .ok (.aload_n 0, 1) := by decide +kernel
theorem dX2_turn_37 : decode cX2_turn 37 = .ok (.getfield 15, 3) := by decide +kernel
theorem dX2_turn_40 : decode cX2_turn 40 = .ok (.iload_n 2, 1) := by decide +kernel
theorem dX2_turn_41 : decode cX2_turn 41 = .ok (.iconst 1, 1) := by decide +kernel
theorem dX2_turn_42 : decode cX2_turn 42 = .ok (.ixor, 1) := by decide +kernel
theorem dX2_turn_43 : decode cX2_turn 43 = .ok (.iaload, 1) := by decide +kernel
theorem dX2_turn_44 : decode cX2_turn 44 = .ok (.aload_n 0, 1) := by decide +kernel
theorem dX2_turn_45 : decode cX2_turn 45 = .ok (.getfield 15, 3) := by decide +kernel
theorem dX2_turn_48 : decode cX2_turn 48 = .ok (.iload_n 2, 1) := by decide +kernel
theorem dX2_turn_49 : decode cX2_turn 49 = .ok (.iaload, 1) := by decide +kernel
theorem dX2_turn_50 : decode cX2_turn 50 = .ok (.isub, 1) := by decide +kernel
theorem dX2_turn_51 : decode cX2_turn 51 = .ok (.i2l, 1) := by decide +kernel
theorem dX2_turn_52 : decode cX2_turn 52 = .ok (.lmul, 1) := by decide +kernel
theorem dX2_turn_53 : decode cX2_turn 53 = .ok (.lload 5, 2) := by decide +kernel
theorem dX2_turn_55 : decode cX2_turn 55 = .ok (.aload_n 0, 1) := by decide +kernel
theorem dX2_turn_56 : decode cX2_turn 56 = .ok (.getfield 9, 3) := by decide +kernel
theorem dX2_turn_59 : decode cX2_turn 59 = .ok (.iload_n 2, 1) := by decide +kernel
theorem dX2_turn_60 : decode cX2_turn 60 = .ok (.iconst 1, 1) := by decide +kernel
theorem dX2_turn_61 : decode cX2_turn 61 = .ok (.ixor, 1) := by decide +kernel
theorem dX2_turn_62 : decode cX2_turn 62 = .ok (.iaload, 1) := by decide +kernel
theorem dX2_turn_63 : decode cX2_turn 63 = .ok (.aload_n 0, 1) := by decide +kernel
theorem dX2_turn_64 : decode cX2_turn 64 = .ok (.getfield 9, 3) := by decide +kernel
theorem dX2_turn_67 : decode cX2_turn 67 = .ok (.iload_n 2, 1) := by decide +kernel
theorem dX2_turn_68 : decode cX2_turn 68 = .ok (.iaload, 1) := by decide +kernel
theorem dX2_turn_69 : decode cX2_turn 69 = .ok (.isub, 1) := by decide +kernel
theorem dX2_turn_70 : decode cX2_turn 70 = .ok (.i2l, 1) := by decide +kernel
theorem dX2_turn_71 : decode cX2_turn 71 = .ok (.lmul, 1) := by decide +kernel
theorem dX2_turn_72 : decode cX2_turn 72 = .ok (.lsub, 1) := by decide +kernel
theorem dX2_turn_73 : decode cX2_turn 73 = .ok (.lreturn, 1) := by decide +kernel
set_option maxRecDepth 20000 in
theorem ggX2_sooner_X2_turn : GoodIn wsX2_sooner wsX2_turn := goodIn_r _ [5, 6, 7, 11, 12, 13, 14] (by decide +kernel) (by decide +kernel)
set_option maxRecDepth 20000 in
theorem gX2_sooner_X2_turn : GoodIn wsX2_sooner (wsV RX2 50 RX2 yX2_turn wsX2_turn) := goodIn_app (goodIn_of _ (by decide +kernel)) ggX2_sooner_X2_turn
set_option maxRecDepth 20000 in
theorem ggX2_sooner_X2_signOf : GoodIn wsX2_sooner wsX2_signOf := goodIn_r _ [10] (by decide +kernel) (by decide +kernel)
set_option maxRecDepth 20000 in
theorem gX2_sooner_X2_signOf : GoodIn wsX2_sooner (va_wsS RX2 54 yX2_signOf wsX2_signOf) := goodIn_app (goodIn_of _ (by decide +kernel)) ggX2_sooner_X2_signOf
theorem dX2_sooner_0 : decode cX2_sooner 0 = .ok (.aload_n 0, 1) := by decide +kernel
theorem dX2_sooner_1 : decode cX2_sooner 1 = .ok (.iload_n 1, 1) := by decide +kernel
theorem dX2_sooner_2 : decode cX2_sooner 2 = .ok (.iload_n 2, 1) := by decide +kernel
theorem dX2_sooner_3 : decode cX2_sooner 3 = .ok (.invokevirtual 50, 3) := by decide +kernel
theorem dX2_sooner_6 : decode cX2_sooner 6 = .ok (.invokestatic 54, 3) := by decide +kernel
theorem dX2_sooner_9 : decode cX2_sooner 9 = .ok (.istore 4, 2) := by decide +kernel
theorem dX2_sooner_11 : decode cX2_sooner 11 = .ok (.aload_n 0, 1) := by decide +kernel
theorem dX2_sooner_12 : decode cX2_sooner 12 = .ok (.iload_n 1, 1) := by decide +kernel
theorem dX2_sooner_13 : decode cX2_sooner 13 = .ok (.iload_n 3, 1) := by decide +kernel
theorem dX2_sooner_14 : decode cX2_sooner 14 = .ok (.invokevirtual 50, 3) := by decide +kernel
theorem dX2_sooner_17 : decode cX2_sooner 17 = .ok (.invokestatic 54, 3) := by decide +kernel
theorem dX2_sooner_20 : decode cX2_sooner 20 = .ok (.istore 5, 2) := by decide +kernel
theorem dX2_sooner_22 : decode cX2_sooner 22 = .ok (.iload 4, 2) := by decide +kernel
theorem dX2_sooner_24 : decode cX2_sooner 24 = .ok (.iload 5, 2) := by decide +kernel
theorem dX2_sooner_26 : decode cX2_sooner 26 = .ok (.if_icmp .ne 22, 3) := by decide +kernel
theorem dX2_sooner_29 : decode cX2_sooner 29 = .ok (.aload_n 0, 1) := by decide +kernel
theorem dX2_sooner_30 : decode cX2_sooner 30 = .ok (.iload_n 2, 1) := by decide +kernel
theorem dX2_sooner_31 : decode cX2_sooner 31 = .ok (.iload_n 3, 1) := by decide +kernel
theorem dX2_sooner_32 : decode cX2_sooner 32 = .ok (.invokevirtual 50, 3) := by decide +kernel
theorem dX2_sooner_35 : decode cX2_sooner 35 = .ok (.lconst 0, 1) := by decide +kernel
theorem dX2_sooner_36 : decode cX2_sooner 36 = .ok (.lcmp, 1) := by decide +kernel
theorem dX2_sooner_37 : decode cX2_sooner 37 = .ok (.ifCond .ge 7, 3) := by decide +kernel
theorem dX2_sooner_40 : decode cX2_sooner 40 = .ok (.iconst 1, 1) := by decide +kernel
theorem dX2_sooner_41 : decode cX2_sooner 41 = .ok (.goto 19, 3) := by decide +kernel
theorem dX2_sooner_44 : decode cX2_sooner 44 = .ok (.iconst 0, 1) := by decide +kernel
theorem dX2_sooner_45 : decode cX2_sooner 45 = .ok (.goto 15, 3) := by decide +kernel
theorem dX2_sooner_48 : decode cX2_sooner 48 = .ok (.iload 4, 2) := by decide +kernel
theorem dX2_sooner_50 : decode cX2_sooner 50 = .ok (.iload 5, 2) := by decide +kernel
theorem dX2_sooner_52 : decode cX2_sooner 52 = .ok (.if_icmp .ge 7, 3) := by decide +kernel
theorem dX2_sooner_55 : decode cX2_sooner 55 = .ok (.iconst 1, 1) := by decide +kernel
theorem dX2_sooner_56 : decode cX2_sooner 56 = .ok (.goto 4, 3) := by decide +kernel
theorem dX2_sooner_59 : decode cX2_sooner 59 = .ok (.iconst 0, 1) := by decide +kernel
theorem dX2_sooner_60 : decode cX2_sooner 60 = .ok (.ireturn, 1) := by decide +kernel
theorem dX2_signOf_0 : decode cX2_signOf 0 = .ok (.lload_n 0, 1) := by decide +kernel
theorem dX2_signOf_1 : decode cX2_signOf 1 = .ok (.lconst 0, 1) := by decide +kernel
theorem dX2_signOf_2 : decode cX2_signOf 2 = .ok (.lcmp, 1) := by decide +kernel
theorem dX2_signOf_3 : decode cX2_signOf 3 = .ok (.ifCond .ge 7, 3) := by decide +kernel
theorem dX2_signOf_6 : decode cX2_signOf 6 = .ok (.iconst (-1), 1) := by decide +kernel
theorem dX2_signOf_7 : decode cX2_signOf 7 = .ok (.goto 14, 3) := by decide +kernel
theorem dX2_signOf_10 : decode cX2_signOf 10 = .ok (.lload_n 0, 1) := by decide +kernel
theorem dX2_signOf_11 : decode cX2_signOf 11 = .ok (.lconst 0, 1) := by decide +kernel
theorem dX2_signOf_12 : decode cX2_signOf 12 = .ok (.lcmp, 1) := by decide +kernel
theorem dX2_signOf_13 : decode cX2_signOf 13 = .ok (.ifCond .le 7, 3) := by decide +kernel
theorem dX2_signOf_16 : decode cX2_signOf 16 = .ok (.iconst 1, 1) := by decide +kernel
theorem dX2_signOf_17 : decode cX2_signOf 17 = .ok (.goto 4, 3) := by decide +kernel
theorem dX2_signOf_20 : decode cX2_signOf 20 = .ok (.iconst 0, 1) := by decide +kernel
theorem dX2_signOf_21 : decode cX2_signOf 21 = .ok (.ireturn, 1) := by decide +kernel
theorem dX2_sweep_0 : decode cX2_sweep 0 = .ok (.aload_n 0, 1) := by decide +kernel
theorem dX2_sweep_1 : decode cX2_sweep 1 = .ok (.getfield 9, 3) := by decide +kernel
theorem dX2_sweep_4 : decode cX2_sweep 4 = .ok (.iload_n 1, 1) := by decide +kernel
theorem dX2_sweep_5 : decode cX2_sweep 5 = .ok (.iaload, 1) := by decide +kernel
theorem dX2_sweep_6 : decode cX2_sweep 6 = .ok (.i2l, 1) := by decide +kernel
theorem dX2_sweep_7 : decode cX2_sweep 7 = .ok (.aload_n 0, 1) := by decide +kernel
theorem dX2_sweep_8 : decode cX2_sweep 8 = .ok (.getfield 15, 3) := by decide +kernel
theorem dX2_sweep_11 : decode cX2_sweep 11 = .ok (.iload_n 1, 1) := by decide +kernel
theorem dX2_sweep_12 : decode cX2_sweep 12 = .ok (.iconst 1, 1) := by decide +kernel
theorem dX2_sweep_13 : decode cX2_sweep 13 = .ok (.ixor, 1) := by decide +kernel
theorem dX2_sweep_14 : decode cX2_sweep 14 = .ok (.iaload, 1) := by decide +kernel
theorem dX2_sweep_15 : decode cX2_sweep 15 = .ok (.i2l, 1) := by decide +kernel
theorem dX2_sweep_16 : decode cX2_sweep 16 = .ok (.lmul, 1) := by decide +kernel
theorem dX2_sweep_17 : decode cX2_sweep 17 = .ok (.aload_n 0, 1) := by decide +kernel
theorem dX2_sweep_18 : decode cX2_sweep 18 = .ok (.getfield 9, 3) := by decide +kernel
theorem dX2_sweep_21 : decode cX2_sweep 21 = .ok (.iload_n 1, 1) := by decide +kernel
theorem dX2_sweep_22 : decode cX2_sweep 22 = .ok (.iconst 1, 1) := by decide +kernel
theorem dX2_sweep_23 : decode cX2_sweep 23 = .ok (.ixor, 1) := by decide +kernel
theorem dX2_sweep_24 : decode cX2_sweep 24 = .ok (.iaload, 1) := by decide +kernel
theorem dX2_sweep_25 : decode cX2_sweep 25 = .ok (.i2l, 1) := by decide +kernel
theorem dX2_sweep_26 : decode cX2_sweep 26 = .ok (.aload_n 0, 1) := by decide +kernel
theorem dX2_sweep_27 : decode cX2_sweep 27 = .ok (.getfield 15, 3) := by decide +kernel
theorem dX2_sweep_30 : decode cX2_sweep 30 = .ok (.iload_n 1, 1) := by decide +kernel
theorem dX2_sweep_31 : decode cX2_sweep 31 = .ok (.iaload, 1) := by decide +kernel
theorem dX2_sweep_32 : decode cX2_sweep 32 = .ok (.i2l, 1) := by decide +kernel
theorem dX2_sweep_33 : decode cX2_sweep 33 = .ok (.lmul, 1) := by decide +kernel
theorem dX2_sweep_34 : decode cX2_sweep 34 = .ok (.lsub, 1) := by decide +kernel
theorem dX2_sweep_35 : decode cX2_sweep 35 = .ok (.lreturn, 1) := by decide +kernel
theorem dX2_rightward_0 : decode cX2_rightward 0 = .ok (.aload_n 0, 1) := by decide +kernel
theorem dX2_rightward_1 : decode cX2_rightward 1 = .ok (.getfield 9, 3) := by decide +kernel
theorem dX2_rightward_4 : decode cX2_rightward 4 = .ok (.iconst 2, 1) := by decide +kernel
theorem dX2_rightward_5 : decode cX2_rightward 5 = .ok (.iload_n 1, 1) := by decide +kernel
theorem dX2_rightward_6 : decode cX2_rightward 6 = .ok (.imul, 1) := by decide +kernel
theorem dX2_rightward_7 : decode cX2_rightward 7 = .ok (.iaload, 1) := by decide +kernel
theorem dX2_rightward_8 : decode cX2_rightward 8 = .ok (.aload_n 0, 1) := by decide +kernel
theorem dX2_rightward_9 : decode cX2_rightward 9 = .ok (.getfield 9, 3) := by decide +kernel
theorem dX2_rightward_12 : decode cX2_rightward 12 = .ok (.iconst 2, 1) := by decide +kernel
theorem dX2_rightward_13 : decode cX2_rightward 13 = .ok (.iload_n 1, 1) := by decide +kernel
theorem dX2_rightward_14 : decode cX2_rightward 14 = .ok (.imul, 1) := by decide +kernel
theorem dX2_rightward_15 : decode cX2_rightward 15 = .ok (.iconst 1, 1) := by decide +kernel
theorem dX2_rightward_16 : decode cX2_rightward 16 = .ok (.iadd, 1) := by decide +kernel
theorem dX2_rightward_17 : decode cX2_rightward 17 = .ok (.iaload, 1) := by decide +kernel
theorem dX2_rightward_18 : decode cX2_rightward 18 = .ok (.if_icmp .gt 9, 3) := by decide +kernel
theorem dX2_rightward_21 : decode cX2_rightward 21 = .ok (.iconst 2, 1) := by decide +kernel
theorem dX2_rightward_22 : decode cX2_rightward 22 = .ok (.iload_n 1, 1) := by decide +kernel
theorem dX2_rightward_23 : decode cX2_rightward 23 = .ok (.imul, 1) := by decide +kernel
theorem dX2_rightward_24 : decode cX2_rightward 24 = .ok (.goto 8, 3) := by decide +kernel
theorem dX2_rightward_27 : decode cX2_rightward 27 = .ok (.iconst 2, 1) := by decide +kernel
theorem dX2_rightward_28 : decode cX2_rightward 28 = .ok (.iload_n 1, 1) := by decide +kernel
theorem dX2_rightward_29 : decode cX2_rightward 29 = .ok (.imul, 1) := by decide +kernel
theorem dX2_rightward_30 : decode cX2_rightward 30 = .ok (.iconst 1, 1) := by decide +kernel
theorem dX2_rightward_31 : decode cX2_rightward 31 = .ok (.iadd, 1) := by decide +kernel
theorem dX2_rightward_32 : decode cX2_rightward 32 = .ok (.ireturn, 1) := by decide +kernel
set_option maxRecDepth 20000 in
theorem ggX2_roofs_X2_rightward : GoodIn wsX2_roofs wsX2_rightward := goodIn_r _ [6, 1, 12, 13, 14, 15] (by decide +kernel) (by decide +kernel)
set_option maxRecDepth 20000 in
theorem gX2_roofs_X2_rightward : GoodIn wsX2_roofs (wsV RX2 58 RX2 yX2_rightward wsX2_rightward) := goodIn_app (goodIn_of _ (by decide +kernel)) ggX2_roofs_X2_rightward
set_option maxRecDepth 20000 in
theorem ggX2_roofs_X2_side : GoodIn wsX2_roofs wsX2_side := goodIn_r _ [10, 1, 11, 12, 13, 14, 15] (by decide +kernel) (by decide +kernel)
set_option maxRecDepth 20000 in
theorem gX2_roofs_X2_side : GoodIn wsX2_roofs (wsV RX2 46 RX2 yX2_side wsX2_side) := goodIn_app (goodIn_of _ (by decide +kernel)) ggX2_roofs_X2_side
theorem dX2_roofs_0 : decode cX2_roofs 0 = .ok (.aload_n 0, 1) := by decide +kernel
theorem dX2_roofs_1 : decode cX2_roofs 1 = .ok (.iload_n 1, 1) := by decide +kernel
theorem dX2_roofs_2 : decode cX2_roofs 2 = .ok (.invokevirtual 58, 3) := by decide +kernel
theorem dX2_roofs_5 : decode cX2_roofs 5 = .ok (.istore 4, 2) := by decide +kernel
theorem dX2_roofs_7 : decode cX2_roofs 7 = .ok (.aload_n 0, 1) := by decide +kernel
theorem dX2_roofs_8 : decode cX2_roofs 8 = .ok (.getfield 9, 3) := by decide +kernel
theorem dX2_roofs_11 : decode cX2_roofs 11 = .ok (.iload 4, 2) := by decide +kernel
theorem dX2_roofs_13 : decode cX2_roofs 13 = .ok (.iaload, 1) := by decide +kernel
theorem dX2_roofs_14 : decode cX2_roofs 14 = .ok (.iload_n 2, 1) := by decide +kernel
theorem dX2_roofs_15 : decode cX2_roofs 15 = .ok (.if_icmp .gt 33, 3) := by decide +kernel
theorem dX2_roofs_18 : decode cX2_roofs 18 = .ok (.iload_n 2, 1) := by decide +kernel
theorem dX2_roofs_19 : decode cX2_roofs 19 = .ok (.aload_n 0, 1) := by decide +kernel
theorem dX2_roofs_20 : decode cX2_roofs 20 = .ok (.getfield 9, 3) := by decide +kernel
theorem dX2_roofs_23 : decode cX2_roofs 23 = .ok (.iload 4, 2) := by decide +kernel
theorem dX2_roofs_25 : decode cX2_roofs 25 = .ok (.iconst 1, 1) := by decide +kernel
theorem dX2_roofs_26 : decode cX2_roofs 26 = .ok (.ixor, 1) := by decide +kernel
theorem dX2_roofs_27 : decode cX2_roofs 27 = .ok (.iaload, 1) := by decide +kernel
theorem dX2_roofs_28 : decode cX2_roofs 28 = .ok (.if_icmp .ge 20, 3) := by decide +kernel
theorem dX2_roofs_31 : decode cX2_roofs 31 = .ok (.aload_n 0, 1) := by decide +kernel
theorem dX2_roofs_32 : decode cX2_roofs 32 = .ok (.iload 4, 2) := by decide +kernel
theorem dX2_roofs_34 : decode cX2_roofs 34 = .ok (.iload_n 2, 1) := by decide +kernel
theorem dX2_roofs_35 : decode cX2_roofs 35 = .ok (.iload_n 3, 1) := by decide +kernel
theorem dX2_roofs_36 : decode cX2_roofs 36 = .ok (.invokevirtual 46, 3) := by decide +kernel
theorem dX2_roofs_39 : decode cX2_roofs 39 = .ok (.lconst 0, 1) := by decide +kernel
theorem dX2_roofs_40 : decode cX2_roofs 40 = .ok (.lcmp, 1) := by decide +kernel
theorem dX2_roofs_41 : decode cX2_roofs 41 = .ok (.ifCond .ge 7, 3) := by decide +kernel
theorem dX2_roofs_44 : decode cX2_roofs 44 = .ok (.iconst 1, 1) := by decide +kernel
theorem dX2_roofs_45 : decode cX2_roofs 45 = .ok (.goto 4, 3) := by decide +kernel
theorem dX2_roofs_48 : decode cX2_roofs 48 = .ok (.iconst 0, 1) := by decide +kernel
theorem dX2_roofs_49 : decode cX2_roofs 49 = .ok (.ireturn, 1) := by decide +kernel
set_option maxRecDepth 20000 in
theorem ggX2_firstUpFrom_X2_reachesAbove : GoodIn wsX2_firstUpFrom wsX2_reachesAbove := goodIn_r _ [6, 7, 8, 9, 10, 11, 12, 13, 14, 15, 5, 16, 17, 18, 19, 20, 35, 36, 37, 38] (by decide +kernel) (by decide +kernel)
set_option maxRecDepth 20000 in
theorem gX2_firstUpFrom_X2_reachesAbove : GoodIn wsX2_firstUpFrom (wsV RX2 62 RX2 yX2_reachesAbove wsX2_reachesAbove) := goodIn_app (goodIn_of _ (by decide +kernel)) ggX2_firstUpFrom_X2_reachesAbove
set_option maxRecDepth 20000 in
theorem ggX2_firstUpFrom_X2_height : GoodIn wsX2_firstUpFrom wsX2_height := goodIn_r _ [24, 7, 8, 25, 26, 11, 27, 9, 10, 12, 13, 14, 15, 5, 16, 35, 36, 37, 38] (by decide +kernel) (by decide +kernel)
set_option maxRecDepth 20000 in
theorem gX2_firstUpFrom_X2_height : GoodIn wsX2_firstUpFrom (wsV RX2 65 RX2 yX2_height wsX2_height) := goodIn_app (goodIn_of _ (by decide +kernel)) ggX2_firstUpFrom_X2_height
set_option maxRecDepth 20000 in
theorem ggX2_firstUpFrom_X2_width : GoodIn wsX2_firstUpFrom wsX2_width := goodIn_r _ [31, 7, 32, 33, 11, 34, 9, 10, 12, 35, 36, 37, 38] (by decide +kernel) (by decide +kernel)
set_option maxRecDepth 20000 in
theorem gX2_firstUpFrom_X2_width : GoodIn wsX2_firstUpFrom (wsV RX2 68 RX2 yX2_width wsX2_width) := goodIn_app (goodIn_of _ (by decide +kernel)) ggX2_firstUpFrom_X2_width
theorem dX2_firstUpFrom_0 : decode cX2_firstUpFrom 0 = .ok (.iconst (-1), 1) := by decide +kernel
theorem dX2_firstUpFrom_1 : decode cX2_firstUpFrom 1 = .ok (.istore_n 3, 1) := by decide +kernel
theorem dX2_firstUpFrom_2 : decode cX2_firstUpFrom 2 = .ok (.lconst 0, 1) := by decide +kernel
theorem dX2_firstUpFrom_3 : decode cX2_firstUpFrom 3 = .ok (.lstore 4, 2) := by decide +kernel
theorem dX2_firstUpFrom_5 : decode cX2_firstUpFrom 5 = .ok (.lconst 1, 1) := by decide +kernel
theorem dX2_firstUpFrom_6 : decode cX2_firstUpFrom 6 = .ok (.lstore 6, 2) := by decide +kernel
theorem dX2_firstUpFrom_8 : decode cX2_firstUpFrom 8 = .ok (.iconst 0, 1) := by decide +kernel
theorem dX2_firstUpFrom_9 : decode cX2_firstUpFrom 9 = .ok (.istore 8, 2) := by decide +kernel
theorem dX2_firstUpFrom_11 : decode cX2_firstUpFrom 11 = .ok (.iload 8, 2) := by decide +kernel
theorem dX2_firstUpFrom_13 : decode cX2_firstUpFrom 13 = .ok (.bipush 60, 2) := by decide +kernel
theorem dX2_firstUpFrom_15 : decode cX2_firstUpFrom 15 = .ok (.if_icmp .ge 78, 3) := by decide +kernel
theorem dX2_firstUpFrom_18 : decode cX2_firstUpFrom 18 = .ok (.aload_n 0, 1) := by decide +kernel
theorem dX2_firstUpFrom_19 : decode cX2_firstUpFrom 19 = .ok (.getfield 18, 3) := by decide +kernel
theorem dX2_firstUpFrom_22 : decode cX2_firstUpFrom 22 = .ok (.iload 8, 2) := by decide +kernel
theorem dX2_firstUpFrom_24 : decode cX2_firstUpFrom 24 = .ok (.baload, 1) := by decide +kernel
theorem dX2_firstUpFrom_25 : decode cX2_firstUpFrom 25 = .ok (.ifCond .eq 62, 3) := by decide +kernel
theorem dX2_firstUpFrom_28 : decode cX2_firstUpFrom 28 = .ok (.aload_n 0, 1) := by decide +kernel
theorem dX2_firstUpFrom_29 : decode cX2_firstUpFrom 29 = .ok (.iload 8, 2) := by decide +kernel
theorem dX2_firstUpFrom_31 : decode cX2_firstUpFrom 31 = .ok (.iload_n 1, 1) := by decide +kernel
theorem dX2_firstUpFrom_32 : decode cX2_firstUpFrom 32 = .ok (.iload_n 2, 1) := by decide +kernel
theorem dX2_firstUpFrom_33 : decode cX2_firstUpFrom 33 = .ok (.invokevirtual 62, 3) := by decide +kernel
theorem dX2_firstUpFrom_36 : decode cX2_firstUpFrom 36 = .ok (.ifCond .eq 51, 3) := by decide +kernel
theorem dX2_firstUpFrom_39 : decode cX2_firstUpFrom 39 = .ok (.aload_n 0, 1) := by decide +kernel
theorem dX2_firstUpFrom_40 : decode cX2_firstUpFrom 40 = .ok (.iload 8, 2) := by decide +kernel
theorem dX2_firstUpFrom_42 : decode cX2_firstUpFrom 42 = .ok (.iload_n 1, 1) := by decide +kernel
theorem dX2_firstUpFrom_43 : decode cX2_firstUpFrom 43 = .ok (.iload_n 2, 1) := by decide +kernel
theorem dX2_firstUpFrom_44 : decode cX2_firstUpFrom 44 = .ok (.invokevirtual 65, 3) := by decide +kernel
theorem dX2_firstUpFrom_47 : decode cX2_firstUpFrom 47 = .ok (.lstore 9, 2) := by decide +kernel
theorem dX2_firstUpFrom_49 : decode cX2_firstUpFrom 49 = .ok (.aload_n 0, 1) := by decide +kernel
theorem dX2_firstUpFrom_50 : decode cX2_firstUpFrom 50 = .ok (.iload 8, 2) := by decide +kernel
theorem dX2_firstUpFrom_52 : decode cX2_firstUpFrom 52 = .ok (.invokevirtual 68, 3) := by decide +kernel
theorem dX2_firstUpFrom_55 : decode cX2_firstUpFrom 55 = .ok (.lstore 11, 2) := by decide +kernel
theorem dX2_firstUpFrom_57 : decode cX2_firstUpFrom 57 = .ok (.iload_n 3, 1) := by decide +kernel
theorem dX2_firstUpFrom_58 : decode cX2_firstUpFrom 58 = .ok (.iconst (-1), 1) := by decide +kernel
theorem dX2_firstUpFrom_59 : decode cX2_firstUpFrom 59 = .ok (.if_icmp .eq 17, 3) := by decide +kernel
theorem dX2_firstUpFrom_62 : decode cX2_firstUpFrom 62 = .ok (.lload 9, 2) := by decide +kernel
theorem dX2_firstUpFrom_64 : decode cX2_firstUpFrom 64 = .ok (.lload 6, 2) := by decide +kernel
theorem dX2_firstUpFrom_66 : decode cX2_firstUpFrom 66 = .ok (.lmul, 1) := by decide +kernel
theorem dX2_firstUpFrom_67 : decode cX2_firstUpFrom 67 = .ok (.lload 4, 2) := by decide +kernel
theorem dX2_firstUpFrom_69 : decode cX2_firstUpFrom 69 = .ok (.lload 11, 2) := by decide +kernel
theorem dX2_firstUpFrom_71 : decode cX2_firstUpFrom 71 = .ok (.lmul, 1) := by decide +kernel
theorem dX2_firstUpFrom_72 : decode cX2_firstUpFrom 72 = .ok (.lcmp, 1) := by decide +kernel
theorem dX2_firstUpFrom_73 : decode cX2_firstUpFrom 73 = .ok (.ifCond .ge 14, 3) := by decide +kernel
theorem dX2_firstUpFrom_76 : decode cX2_firstUpFrom 76 = .ok (.iload 8, 2) := by decide +kernel
theorem dX2_firstUpFrom_78 : decode cX2_firstUpFrom 78 = .ok (.istore_n 3, 1) := by decide +kernel
theorem dX2_firstUpFrom_79 : decode cX2_firstUpFrom 79 = .ok (.lload 9, 2) := by decide +kernel
theorem dX2_firstUpFrom_81 : decode cX2_firstUpFrom 81 = .ok (.lstore 4, 2) := by decide +kernel
theorem dX2_firstUpFrom_83 : decode cX2_firstUpFrom 83 = .ok (.lload 11, 2) := by decide +kernel
theorem dX2_firstUpFrom_85 : decode cX2_firstUpFrom 85 = .ok (.lstore 6, 2) := by decide +kernel
theorem dX2_firstUpFrom_87 : decode cX2_firstUpFrom 87 = .ok (.iinc 8 1, 3) := by decide +kernel
theorem dX2_firstUpFrom_90 : decode cX2_firstUpFrom 90 = .ok (.goto (-79), 3) := by decide +kernel
theorem dX2_firstUpFrom_93 : decode cX2_firstUpFrom 93 = .ok (.iload_n 3, 1) := by decide +kernel
theorem dX2_firstUpFrom_94 : decode cX2_firstUpFrom 94 = .ok (.ireturn, 1) := by decide +kernel
set_option maxRecDepth 20000 in
theorem ggX2_reachesAbove_X2_rightward : GoodIn wsX2_reachesAbove wsX2_rightward := goodIn_r _ [11, 1, 16, 17, 18, 19] (by decide +kernel) (by decide +kernel)
set_option maxRecDepth 20000 in
theorem gX2_reachesAbove_X2_rightward : GoodIn wsX2_reachesAbove (wsV RX2 58 RX2 yX2_rightward wsX2_rightward) := goodIn_app (goodIn_of _ (by decide +kernel)) ggX2_reachesAbove_X2_rightward
set_option maxRecDepth 20000 in
theorem ggX2_reachesAbove_X2_side : GoodIn wsX2_reachesAbove wsX2_side := goodIn_r _ [15, 1, 2, 16, 17, 18, 19] (by decide +kernel) (by decide +kernel)
set_option maxRecDepth 20000 in
theorem gX2_reachesAbove_X2_side : GoodIn wsX2_reachesAbove (wsV RX2 46 RX2 yX2_side wsX2_side) := goodIn_app (goodIn_of _ (by decide +kernel)) ggX2_reachesAbove_X2_side
theorem dX2_reachesAbove_0 : decode cX2_reachesAbove 0 = .ok (.aload_n 0, 1) := by decide +kernel
theorem dX2_reachesAbove_1 : decode cX2_reachesAbove 1 = .ok (.iload_n 1, 1) := by decide +kernel
theorem dX2_reachesAbove_2 : decode cX2_reachesAbove 2 = .ok (.invokevirtual 58, 3) := by decide +kernel
theorem dX2_reachesAbove_5 : decode cX2_reachesAbove 5 = .ok (.istore 4, 2) := by decide +kernel
theorem dX2_reachesAbove_7 : decode cX2_reachesAbove 7 = .ok (.iload_n 2, 1) := by decide +kernel
theorem dX2_reachesAbove_8 : decode cX2_reachesAbove 8 = .ok (.aload_n 0, 1) := by decide +kernel
theorem dX2_reachesAbove_9 : decode cX2_reachesAbove 9 = .ok (.getfield 9, 3) := by decide +kernel
theorem dX2_reachesAbove_12 : decode cX2_reachesAbove 12 = .ok (.iload 4, 2) := by decide +kernel
theorem dX2_reachesAbove_14 : decode cX2_reachesAbove 14 = .ok (.iaload, 1) := by decide +kernel
theorem dX2_reachesAbove_15 : decode cX2_reachesAbove 15 = .ok (.if_icmp .lt 16, 3) := by decide +kernel
theorem dX2_reachesAbove_18 : decode cX2_reachesAbove 18 = .ok (.iload_n 2, 1) := by decide +kernel
theorem dX2_reachesAbove_19 : decode cX2_reachesAbove 19 = .ok (.aload_n 0, 1) := by decide +kernel
theorem dX2_reachesAbove_20 : decode cX2_reachesAbove 20 = .ok (.getfield 9, 3) := by decide +kernel
theorem dX2_reachesAbove_23 : decode cX2_reachesAbove 23 = .ok (.iload 4, 2) := by decide +kernel
theorem dX2_reachesAbove_25 : decode cX2_reachesAbove 25 = .ok (.iconst 1, 1) := by decide +kernel
theorem dX2_reachesAbove_26 : decode cX2_reachesAbove 26 = .ok (.ixor, 1) := by decide +kernel
theorem dX2_reachesAbove_27 : decode cX2_reachesAbove 27 = .ok (.iaload, 1) := by decide +kernel
theorem dX2_reachesAbove_28 : decode cX2_reachesAbove 28 = .ok (.if_icmp .le 5, 3) := by decide +kernel
theorem dX2_reachesAbove_31 : decode cX2_reachesAbove 31 = .ok (.iconst 0, 1) := by decide +kernel
theorem dX2_reachesAbove_32 : decode cX2_reachesAbove 32 = .ok (.ireturn, 1) := by decide +kernel
theorem dX2_reachesAbove_33 : decode cX2_reachesAbove 33 = .ok (.aload_n 0, 1) := by decide +kernel
theorem dX2_reachesAbove_34 : decode cX2_reachesAbove 34 = .ok (.getfield 9, 3) := by decide +kernel
theorem dX2_reachesAbove_37 : decode cX2_reachesAbove 37 = .ok (.iload 4, 2) := by decide +kernel
theorem dX2_reachesAbove_39 : decode cX2_reachesAbove 39 = .ok (.iaload, 1) := by decide +kernel
theorem dX2_reachesAbove_40 : decode cX2_reachesAbove 40 = .ok (.aload_n 0, 1) := by decide +kernel
theorem dX2_reachesAbove_41 : decode cX2_reachesAbove 41 = .ok (.getfield 9, 3) := by decide +kernel
theorem dX2_reachesAbove_44 : decode cX2_reachesAbove 44 = .ok (.iload 4, 2) := by decide +kernel
theorem dX2_reachesAbove_46 : decode cX2_reachesAbove 46 = .ok (.iconst 1, 1) := by decide +kernel
theorem dX2_reachesAbove_47 : decode cX2_reachesAbove 47 = .ok (.ixor, 1) := by decide +kernel
theorem dX2_reachesAbove_48 : decode cX2_reachesAbove 48 = .ok (.iaload, 1) := by decide +kernel
theorem dX2_reachesAbove_49 : decode cX2_reachesAbove 49 = .ok (.if_icmp .ne 32, 3) := by decide +kernel
theorem dX2_reachesAbove_52 : decode cX2_reachesAbove 52 = .ok (.aload_n 0, 1) := by decide +kernel
theorem dX2_reachesAbove_53 : decode cX2_reachesAbove 53 = .ok (.getfield 15, 3) := by decide +kernel
theorem dX2_reachesAbove_56 : decode cX2_reachesAbove 56 = .ok (.iload 4, 2) := by decide +kernel
theorem dX2_reachesAbove_58 : decode cX2_reachesAbove 58 = .ok (.iaload, 1) := by decide +kernel
theorem dX2_reachesAbove_59 : decode cX2_reachesAbove 59 = .ok (.aload_n 0, 1) := by decide +kernel
theorem dX2_reachesAbove_60 : decode cX2_reachesAbove 60 = .ok (.getfield 15, 3) := by decide +kernel
theorem dX2_reachesAbove_63 : decode cX2_reachesAbove 63 = .ok (.iload 4, 2) := by decide +kernel
theorem dX2_reachesAbove_65 : decode cX2_reachesAbove 65 = .ok (.iconst 1, 1) := by decide +kernel
theorem dX2_reachesAbove_66 : decode cX2_reachesAbove 66 = .ok (.ixor, 1) := by decide +kernel
theorem dX2_reachesAbove_67 : decode cX2_reachesAbove 67 = .ok (.iaload, 1) := by decide +kernel
theorem dX2_reachesAbove_68 : decode cX2_reachesAbove 68 = .ok (.invokestatic 72, 3) := by decide +kernel
theorem dX2_reachesAbove_71 : decode cX2_reachesAbove 71 = .ok (.iload_n 3, 1) := by decide +kernel
theorem dX2_reachesAbove_72 : decode cX2_reachesAbove 72 = .ok (.if_icmp .le 7, 3) := by decide +kernel
theorem dX2_reachesAbove_75 : decode cX2_reachesAbove 75 = .ok (.iconst 1, 1) := by decide +kernel
theorem dX2_reachesAbove_76 : decode cX2_reachesAbove 76 = .ok (.goto 4, 3) := by decide +kernel
theorem dX2_reachesAbove_79 : decode cX2_reachesAbove 79 = .ok (.iconst 0, 1) := by decide +kernel
theorem dX2_reachesAbove_80 : decode cX2_reachesAbove 80 = .ok (.ireturn, 1) := by decide +kernel
theorem dX2_reachesAbove_81 : decode cX2_reachesAbove 81 = .ok (.aload_n 0, 1) := by decide +kernel
theorem dX2_reachesAbove_82 : decode cX2_reachesAbove 82 = .ok (.iload 4, 2) := by decide +kernel
theorem dX2_reachesAbove_84 : decode cX2_reachesAbove 84 = .ok (.iload_n 2, 1) := by decide +kernel
theorem dX2_reachesAbove_85 : decode cX2_reachesAbove 85 = .ok (.iload_n 3, 1) := by decide +kernel
theorem dX2_reachesAbove_86 : decode cX2_reachesAbove 86 = .ok (.invokevirtual 46, 3) := by decide +kernel
theorem dX2_reachesAbove_89 : decode cX2_reachesAbove 89 = .ok (.lconst 0, 1) := by decide +kernel
theorem dX2_reachesAbove_90 : decode cX2_reachesAbove 90 = .ok (.lcmp, 1) := by decide +kernel
theorem dX2_reachesAbove_91 : decode cX2_reachesAbove 91 = .ok (.ifCond .ge 7, 3) := by decide +kernel
theorem dX2_reachesAbove_94 : decode cX2_reachesAbove 94 = .ok (.iconst 1, 1) := by decide +kernel
theorem dX2_reachesAbove_95 : decode cX2_reachesAbove 95 = .ok (.goto 4, 3) := by decide +kernel
theorem dX2_reachesAbove_98 : decode cX2_reachesAbove 98 = .ok (.iconst 0, 1) := by decide +kernel
theorem dX2_reachesAbove_99 : decode cX2_reachesAbove 99 = .ok (.ireturn, 1) := by decide +kernel
set_option maxRecDepth 20000 in
theorem ggX2_height_X2_rightward : GoodIn wsX2_height wsX2_rightward := goodIn_r _ [14, 1, 15, 16, 17, 18] (by decide +kernel) (by decide +kernel)
set_option maxRecDepth 20000 in
theorem gX2_height_X2_rightward : GoodIn wsX2_height (wsV RX2 58 RX2 yX2_rightward wsX2_rightward) := goodIn_app (goodIn_of _ (by decide +kernel)) ggX2_height_X2_rightward
theorem dX2_height_0 : decode cX2_height 0 = .ok (.aload_n 0, 1) := by decide +kernel
theorem dX2_height_1 : decode cX2_height 1 = .ok (.iload_n 1, 1) := by decide +kernel
theorem dX2_height_2 : decode cX2_height 2 = .ok (.invokevirtual 58, 3) := by decide +kernel
theorem dX2_height_5 : decode cX2_height 5 = .ok (.istore 4, 2) := by decide +kernel
theorem dX2_height_7 : decode cX2_height 7 = .ok (.aload_n 0, 1) := by decide +kernel
theorem dX2_height_8 : decode cX2_height 8 = .ok (.getfield 9, 3) := by decide +kernel
theorem dX2_height_11 : decode cX2_height 11 = .ok (.iload 4, 2) := by decide +kernel
theorem dX2_height_13 : decode cX2_height 13 = .ok (.iconst 1, 1) := by decide +kernel
theorem dX2_height_14 : decode cX2_height 14 = .ok (.ixor, 1) := by decide +kernel
theorem dX2_height_15 : decode cX2_height 15 = .ok (.iaload, 1) := by decide +kernel
theorem dX2_height_16 : decode cX2_height 16 = .ok (.aload_n 0, 1) := by decide +kernel
theorem dX2_height_17 : decode cX2_height 17 = .ok (.getfield 9, 3) := by decide +kernel
theorem dX2_height_20 : decode cX2_height 20 = .ok (.iload 4, 2) := by decide +kernel
theorem dX2_height_22 : decode cX2_height 22 = .ok (.iaload, 1) := by decide +kernel
theorem dX2_height_23 : decode cX2_height 23 = .ok (.isub, 1) := by decide +kernel
theorem dX2_height_24 : decode cX2_height 24 = .ok (.i2l, 1) := by decide +kernel
theorem dX2_height_25 : decode cX2_height 25 = .ok (.lstore 5, 2) := by decide +kernel
theorem dX2_height_27 : decode cX2_height 27 = .ok (.lload 5, 2) := by decide +kernel
theorem dX2_height_29 : decode cX2_height 29 = .ok (.lconst 0, 1) := by decide +kernel
theorem dX2_height_30 : decode cX2_height 30 = .ok (.lcmp, 1) := by decide +kernel
theorem dX2_height_31 : decode cX2_height 31 = .ok (.ifCond .ne 28, 3) := by decide +kernel
theorem dX2_height_34 : decode cX2_height 34 = .ok (.iload_n 3, 1) := by decide +kernel
theorem dX2_height_35 : decode cX2_height 35 = .ok (.aload_n 0, 1) := by decide +kernel
theorem dX2_height_36 : decode cX2_height 36 = .ok (.getfield 15, 3) := by decide +kernel
theorem dX2_height_39 : decode cX2_height 39 = .ok (.iload 4, 2) := by decide +kernel
theorem dX2_height_41 : decode cX2_height 41 = .ok (.iaload, 1) := by decide +kernel
theorem dX2_height_42 : decode cX2_height 42 = .ok (.aload_n 0, 1) := by decide +kernel
theorem dX2_height_43 : decode cX2_height 43 = .ok (.getfield 15, 3) := by decide +kernel
theorem dX2_height_46 : decode cX2_height 46 = .ok (.iload 4, 2) := by decide +kernel
theorem dX2_height_48 : decode cX2_height 48 = .ok (.iconst 1, 1) := by decide +kernel
theorem dX2_height_49 : decode cX2_height 49 = .ok (.ixor, 1) := by decide +kernel
theorem dX2_height_50 : decode cX2_height 50 = .ok (.iaload, 1) := by decide +kernel
theorem dX2_height_51 : decode cX2_height 51 = .ok (.invokestatic 78, 3) := by decide +kernel
theorem dX2_height_54 : decode cX2_height 54 = .ok (.invokestatic 72, 3) := by decide +kernel
theorem dX2_height_57 : decode cX2_height 57 = .ok (.i2l, 1) := by decide +kernel
theorem dX2_height_58 : decode cX2_height 58 = .ok (.lreturn, 1) := by decide +kernel
theorem dX2_height_59 : decode cX2_height 59 = .ok (.aload_n 0, 1) := by decide +kernel
theorem dX2_height_60 : decode cX2_height 60 = .ok (.getfield 15, 3) := by decide +kernel
theorem dX2_height_63 : decode cX2_height 63 = .ok (.iload 4, 2) := by decide +kernel
theorem dX2_height_65 : decode cX2_height 65 = .ok (.iconst 1, 1) := by decide +kernel
theorem dX2_height_66 : decode cX2_height 66 = .ok (.ixor, 1) := by decide +kernel
theorem dX2_height_67 : decode cX2_height 67 = .ok (.iaload, 1) := by decide +kernel
theorem dX2_height_68 : decode cX2_height 68 = .ok (.aload_n 0, 1) := by decide +kernel
theorem dX2_height_69 : decode cX2_height 69 = .ok (.getfield 15, 3) := by decide +kernel
theorem dX2_height_72 : decode cX2_height 72 = .ok (.iload 4, 2) := by decide +kernel
theorem dX2_height_74 : decode cX2_height 74 = .ok (.iaload, 1) := by decide +kernel
theorem dX2_height_75 : decode cX2_height 75 = .ok (.isub, 1) := by decide +kernel
theorem dX2_height_76 : decode cX2_height 76 = .ok (.i2l, 1) := by decide +kernel
theorem dX2_height_77 : decode cX2_height 77 = .ok (.lstore 7, 2) := by decide +kernel
theorem dX2_height_79 : decode cX2_height 79 = .ok (.aload_n 0, 1) := by decide +kernel
theorem dX2_height_80 : decode cX2_height 80 = .ok (.getfield 15, 3) := by decide +kernel
theorem dX2_height_83 : decode cX2_height 83 = .ok (.iload 4, 2) := by decide +kernel
theorem dX2_height_85 : decode cX2_height 85 = .ok (.iaload, 1) := by decide +kernel
theorem dX2_height_86 : decode cX2_height 86 = .ok (.i2l, 1) := by decide +kernel
theorem dX2_height_87 : decode cX2_height 87 = .ok (.lload 5, 2) := by decide +kernel
theorem dX2_height_89 : decode cX2_height 89 = .ok (.lmul, 1) := by decide +kernel
theorem dX2_height_90 : decode cX2_height 90 = .ok (.lload 7, 2) := by decide +kernel
theorem dX2_height_92 : decode cX2_height 92 = .ok (.iload_n 2, 1) := by decide +kernel
theorem dX2_height_93 : decode cX2_height 93 = .ok (.aload_n 0, 1) := by decide +kernel
theorem dX2_height_94 : decode cX2_height 94 = .ok (.getfield 9, 3) := by decide +kernel
theorem dX2_height_97 : decode cX2_height 97 = .ok (.iload 4, 2) := by decide +kernel
theorem dX2_height_99 : decode cX2_height 99 = .ok (.iaload, 1) := by decide +kernel
theorem dX2_height_100 : decode cX2_height 100 = .ok (.isub, 1) := by decide +kernel
theorem dX2_height_101 : decode cX2_height 101 = .ok (.i2l, 1) := by decide +kernel
theorem dX2_height_102 : decode cX2_height 102 = .ok (.lmul, 1) := by decide +kernel
theorem dX2_height_103 : decode cX2_height 103 = .ok (.ladd, 1) := by decide +kernel
theorem dX2_height_104 : decode cX2_height 104 = .ok (.lreturn, 1) := by decide +kernel
theorem dX2_width_0 : decode cX2_width 0 = .ok (.iconst 1, 1) := by decide +kernel
theorem dX2_width_1 : decode cX2_width 1 = .ok (.aload_n 0, 1) := by decide +kernel
theorem dX2_width_2 : decode cX2_width 2 = .ok (.getfield 9, 3) := by decide +kernel
theorem dX2_width_5 : decode cX2_width 5 = .ok (.iconst 2, 1) := by decide +kernel
theorem dX2_width_6 : decode cX2_width 6 = .ok (.iload_n 1, 1) := by decide +kernel
theorem dX2_width_7 : decode cX2_width 7 = .ok (.imul, 1) := by decide +kernel
theorem dX2_width_8 : decode cX2_width 8 = .ok (.iconst 1, 1) := by decide +kernel
theorem dX2_width_9 : decode cX2_width 9 = .ok (.iadd, 1) := by decide +kernel
theorem dX2_width_10 : decode cX2_width 10 = .ok (.iaload, 1) := by decide +kernel
theorem dX2_width_11 : decode cX2_width 11 = .ok (.aload_n 0, 1) := by decide +kernel
theorem dX2_width_12 : decode cX2_width 12 = .ok (.getfield 9, 3) := by decide +kernel
theorem dX2_width_15 : decode cX2_width 15 = .ok (.iconst 2, 1) := by decide +kernel
theorem dX2_width_16 : decode cX2_width 16 = .ok (.iload_n 1, 1) := by decide +kernel
theorem dX2_width_17 : decode cX2_width 17 = .ok (.imul, 1) := by decide +kernel
theorem dX2_width_18 : decode cX2_width 18 = .ok (.iaload, 1) := by decide +kernel
theorem dX2_width_19 : decode cX2_width 19 = .ok (.isub, 1) := by decide +kernel
theorem dX2_width_20 : decode cX2_width 20 = .ok (.invokestatic 81, 3) := by decide +kernel
theorem dX2_width_23 : decode cX2_width 23 = .ok (.invokestatic 72, 3) := by decide +kernel
theorem dX2_width_26 : decode cX2_width 26 = .ok (.i2l, 1) := by decide +kernel
theorem dX2_width_27 : decode cX2_width 27 = .ok (.lreturn, 1) := by decide +kernel
end
section
set_option maxRecDepth 20000 in
theorem ggX0_init_X1_init : GoodIn wsX0_init wsX1_init := goodIn_r _ [18, 19, 2, 3, 20, 21, 22, 23, 10, 24, 25, 26, 27, 28, 29, 30, 31, 32, 33, 34, 35, 36, 37, 38, 39, 40, 41, 42, 62, 63, 64, 65, 43, 44, 45, 46, 47, 48, 49, 50, 51, 52, 53] (by decide +kernel) (by decide +kernel)
set_option maxRecDepth 20000 in
theorem gX0_init_X1_init_n11 : GoodIn wsX0_init (wsX1_init) := ggX0_init_X1_init
theorem dX0_init_0 : decode cX0_init 0 = .ok (.aload_n 0, 1) := by decide +kernel
theorem dX0_init_1 : decode cX0_init 1 = .ok (.invokespecial 3, 3) := by decide +kernel
theorem dX0_init_4 : decode cX0_init 4 = .ok (.aload_n 0, 1) := by decide +kernel
theorem dX0_init_5 : decode cX0_init 5 = .ok (.new 9, 3) := by decide +kernel
theorem dX0_init_8 : decode cX0_init 8 = .ok (.dup, 1) := by decide +kernel
theorem dX0_init_9 : decode cX0_init 9 = .ok (.invokespecial 11, 3) := by decide +kernel
theorem dX0_init_12 : decode cX0_init 12 = .ok (.putfield 12, 3) := by decide +kernel
theorem dX0_init_15 : decode cX0_init 15 = .ok (.aload_n 0, 1) := by decide +kernel
theorem dX0_init_16 : decode cX0_init 16 = .ok (.aload_n 0, 1) := by decide +kernel
theorem dX0_init_17 : decode cX0_init 17 = .ok (.getfield 12, 3) := by decide +kernel
theorem dX0_init_20 : decode cX0_init 20 = .ok (.getfield 18, 3) := by decide +kernel
theorem dX0_init_23 : decode cX0_init 23 = .ok (.putfield 22, 3) := by decide +kernel
theorem dX0_init_26 : decode cX0_init 26 = .ok (.aload_n 0, 1) := by decide +kernel
theorem dX0_init_27 : decode cX0_init 27 = .ok (.bipush 120, 2) := by decide +kernel
theorem dX0_init_29 : decode cX0_init 29 = .ok (.newarray .int, 2) := by decide +kernel
theorem dX0_init_31 : decode cX0_init 31 = .ok (.putfield 23, 3) := by decide +kernel
theorem dX0_init_34 : decode cX0_init 34 = .ok (.aload_n 0, 1) := by decide +kernel
theorem dX0_init_35 : decode cX0_init 35 = .ok (.bipush 120, 2) := by decide +kernel
theorem dX0_init_37 : decode cX0_init 37 = .ok (.newarray .int, 2) := by decide +kernel
theorem dX0_init_39 : decode cX0_init 39 = .ok (.putfield 27, 3) := by decide +kernel
theorem dX0_init_42 : decode cX0_init 42 = .ok (.aload_n 0, 1) := by decide +kernel
theorem dX0_init_43 : decode cX0_init 43 = .ok (.bipush 120, 2) := by decide +kernel
theorem dX0_init_45 : decode cX0_init 45 = .ok (.newarray .int, 2) := by decide +kernel
theorem dX0_init_47 : decode cX0_init 47 = .ok (.putfield 30, 3) := by decide +kernel
theorem dX0_init_50 : decode cX0_init 50 = .ok (.aload_n 0, 1) := by decide +kernel
theorem dX0_init_51 : decode cX0_init 51 = .ok (.bipush 60, 2) := by decide +kernel
theorem dX0_init_53 : decode cX0_init 53 = .ok (.newarray .int, 2) := by decide +kernel
theorem dX0_init_55 : decode cX0_init 55 = .ok (.putfield 33, 3) := by decide +kernel
theorem dX0_init_58 : decode cX0_init 58 = .ok (.aload_n 0, 1) := by decide +kernel
theorem dX0_init_59 : decode cX0_init 59 = .ok (.bipush 121, 2) := by decide +kernel
theorem dX0_init_61 : decode cX0_init 61 = .ok (.newarray .int, 2) := by decide +kernel
theorem dX0_init_63 : decode cX0_init 63 = .ok (.putfield 36, 3) := by decide +kernel
theorem dX0_init_66 : decode cX0_init 66 = .ok (.aload_n 0, 1) := by decide +kernel
theorem dX0_init_67 : decode cX0_init 67 = .ok (.iconst 1, 1) := by decide +kernel
theorem dX0_init_68 : decode cX0_init 68 = .ok (.putfield 39, 3) := by decide +kernel
theorem dX0_init_71 : decode cX0_init 71 = .ok (.return_, 1) := by decide +kernel
set_option maxRecDepth 20000 in
theorem ggX0_settle_X0_findHomes : GoodIn wsX0_settle wsX0_findHomes := goodIn_r _ [11, 1, 2, 6, 3, 12, 13, 14, 15, 16, 17, 18, 19, 20, 21, 22, 23, 24, 25, 26, 27, 28, 29, 30, 31, 32, 33, 34, 35, 36, 37, 38, 39, 40, 41, 42, 43, 44, 45, 46, 47, 48, 49, 50, 51, 52, 53, 54, 55, 56, 70, 71, 72, 73, 74, 75, 76, 77, 78, 79, 80, 81, 82, 83, 84, 85, 86, 87, 88, 89, 90, 91, 92] (by decide +kernel) (by decide +kernel)
set_option maxRecDepth 20000 in
theorem gX0_settle_X0_findHomes : GoodIn wsX0_settle (wsV RX0 43 RX0 yX0_findHomes wsX0_findHomes) := goodIn_app (goodIn_of _ (by decide +kernel)) ggX0_settle_X0_findHomes
set_option maxRecDepth 20000 in
theorem ggX0_settle_X0_numberFaces : GoodIn wsX0_settle wsX0_numberFaces := goodIn_r _ [60, 61, 62, 13, 63, 3, 1, 64, 5, 65, 38, 39, 40, 66, 67, 68, 10, 69, 70, 71, 72, 73, 74, 75, 76, 77, 89, 90, 91, 92, 78, 79, 80, 81, 82, 83, 84, 85, 86, 87, 88] (by decide +kernel) (by decide +kernel)
set_option maxRecDepth 20000 in
theorem gX0_settle_X0_numberFaces : GoodIn wsX0_settle (wsV RX0 46 RX0 yX0_numberFaces wsX0_numberFaces) := goodIn_app (goodIn_of _ (by decide +kernel)) ggX0_settle_X0_numberFaces
set_option maxRecDepth 20000 in
theorem ggX0_settle_X1_pieceOfRound : GoodIn wsX0_settle wsX1_pieceOfRound := goodIn_r _ [20, 21, 22, 78, 79, 80, 81, 82, 83, 84, 85, 86, 87, 88] (by decide +kernel) (by decide +kernel)
set_option maxRecDepth 20000 in
theorem gX0_settle_X1_pieceOfRound : GoodIn wsX0_settle (wsV RX0 50 RX1 yX1_pieceOfRound wsX1_pieceOfRound) := goodIn_app (goodIn_of _ (by decide +kernel)) ggX0_settle_X1_pieceOfRound
theorem dX0_settle_0 : decode cX0_settle 0 = .ok (.aload_n 0, 1) := by decide +kernel
theorem dX0_settle_1 : decode cX0_settle 1 = .ok (.invokevirtual 43, 3) := by decide +kernel
theorem dX0_settle_4 : decode cX0_settle 4 = .ok (.aload_n 0, 1) := by decide +kernel
theorem dX0_settle_5 : decode cX0_settle 5 = .ok (.invokevirtual 46, 3) := by decide +kernel
theorem dX0_settle_8 : decode cX0_settle 8 = .ok (.iconst 0, 1) := by decide +kernel
theorem dX0_settle_9 : decode cX0_settle 9 = .ok (.istore_n 1, 1) := by decide +kernel
theorem dX0_settle_10 : decode cX0_settle 10 = .ok (.iload_n 1, 1) := by decide +kernel
theorem dX0_settle_11 : decode cX0_settle 11 = .ok (.aload_n 0, 1) := by decide +kernel
theorem dX0_settle_12 : decode cX0_settle 12 = .ok (.getfield 12, 3) := by decide +kernel
theorem dX0_settle_15 : decode cX0_settle 15 = .ok (.getfield 49, 3) := by decide +kernel
theorem dX0_settle_18 : decode cX0_settle 18 = .ok (.if_icmp .ge 46, 3) := by decide +kernel
theorem dX0_settle_21 : decode cX0_settle 21 = .ok (.aload_n 0, 1) := by decide +kernel
theorem dX0_settle_22 : decode cX0_settle 22 = .ok (.getfield 23, 3) := by decide +kernel
theorem dX0_settle_25 : decode cX0_settle 25 = .ok (.iload_n 1, 1) := by decide +kernel
theorem dX0_settle_26 : decode cX0_settle 26 = .ok (.iaload, 1) := by decide +kernel
theorem dX0_settle_27 : decode cX0_settle 27 = .ok (.iload_n 1, 1) := by decide +kernel
theorem dX0_settle_28 : decode cX0_settle 28 = .ok (.if_icmp .eq 30, 3) := by decide +kernel
theorem dX0_settle_31 : decode cX0_settle 31 = .ok (.aload_n 0, 1) := by decide +kernel
theorem dX0_settle_32 : decode cX0_settle 32 = .ok (.getfield 33, 3) := by decide +kernel
theorem dX0_settle_35 : decode cX0_settle 35 = .ok (.aload_n 0, 1) := by decide +kernel
theorem dX0_settle_36 : decode cX0_settle 36 = .ok (.getfield 12, 3) := by decide +kernel
theorem dX0_settle_39 : decode cX0_settle 39 = .ok (.iload_n 1, 1) := by decide +kernel
theorem dX0_settle_40 : decode cX0_settle 40 = .ok (.invokevirtual 50, 3) := by decide +kernel
theorem dX0_settle_43 : decode cX0_settle 43 = .ok (.aload_n 0, 1) := by decide +kernel
theorem dX0_settle_44 : decode cX0_settle 44 = .ok (.getfield 30, 3) := by decide +kernel
theorem dX0_settle_47 : decode cX0_settle 47 = .ok (.aload_n 0, 1) := by decide +kernel
theorem dX0_settle_48 : decode cX0_settle 48 = .ok (.getfield 12, 3) := by decide +kernel
theorem dX0_settle_51 : decode cX0_settle 51 = .ok (.getfield 54, 3) := by decide +kernel
theorem dX0_settle_54 : decode cX0_settle 54 = .ok (.iload_n 1, 1) := by decide +kernel
theorem dX0_settle_55 : decode cX0_settle 55 = .ok (.iaload, 1) := by decide +kernel
theorem dX0_settle_56 : decode cX0_settle 56 = .ok (.iaload, 1) := by decide +kernel
theorem dX0_settle_57 : decode cX0_settle 57 = .ok (.iastore, 1) := by decide +kernel
theorem dX0_settle_58 : decode cX0_settle 58 = .ok (.iinc 1 1, 3) := by decide +kernel
theorem dX0_settle_61 : decode cX0_settle 61 = .ok (.goto (-51), 3) := by decide +kernel
theorem dX0_settle_64 : decode cX0_settle 64 = .ok (.return_, 1) := by decide +kernel
set_option maxRecDepth 20000 in
theorem ggX0_findHomes_X1_pieceOfRound : GoodIn wsX0_findHomes wsX1_pieceOfRound := goodIn_r _ [13, 14, 15, 58, 59, 60, 61, 62, 63, 64, 65, 66, 67, 68] (by decide +kernel) (by decide +kernel)
set_option maxRecDepth 20000 in
theorem gX0_findHomes_X1_pieceOfRound : GoodIn wsX0_findHomes (wsV RX0 50 RX1 yX1_pieceOfRound wsX1_pieceOfRound) := goodIn_app (goodIn_of _ (by decide +kernel)) ggX0_findHomes_X1_pieceOfRound
set_option maxRecDepth 20000 in
theorem ggX0_findHomes_X1_enclosing : GoodIn wsX0_findHomes wsX1_enclosing := goodIn_r _ [19, 20, 21, 22, 23, 24, 25, 12, 26, 27, 28, 29, 30, 31, 32, 33, 34, 35, 36, 37, 38, 39, 40, 41, 42, 43, 44, 45, 46, 47, 48, 49, 10, 11, 13, 14, 15, 58, 59, 60, 61, 62, 63, 64, 65, 66, 67, 68, 69, 70, 71, 72] (by decide +kernel) (by decide +kernel)
set_option maxRecDepth 20000 in
theorem gX0_findHomes_X1_enclosing : GoodIn wsX0_findHomes (wsV RX0 69 RX1 yX1_enclosing wsX1_enclosing) := goodIn_app (goodIn_of _ (by decide +kernel)) ggX0_findHomes_X1_enclosing
theorem dX0_findHomes_0 : decode cX0_findHomes 0 = .ok (.iconst 0, 1) := by decide +kernel
theorem dX0_findHomes_1 : decode cX0_findHomes 1 = .ok (.istore_n 1, 1) := by decide +kernel
theorem dX0_findHomes_2 : decode cX0_findHomes 2 = .ok (.iload_n 1, 1) := by decide +kernel
theorem dX0_findHomes_3 : decode cX0_findHomes 3 = .ok (.aload_n 0, 1) := by decide +kernel
theorem dX0_findHomes_4 : decode cX0_findHomes 4 = .ok (.getfield 12, 3) := by decide +kernel
theorem dX0_findHomes_7 : decode cX0_findHomes 7 = .ok (.getfield 49, 3) := by decide +kernel
theorem dX0_findHomes_10 : decode cX0_findHomes 10 = .ok (.if_icmp .ge 76, 3) := by decide +kernel
theorem dX0_findHomes_13 : decode cX0_findHomes 13 = .ok (.aload_n 0, 1) := by decide +kernel
theorem dX0_findHomes_14 : decode cX0_findHomes 14 = .ok (.getfield 12, 3) := by decide +kernel
theorem dX0_findHomes_17 : decode cX0_findHomes 17 = .ok (.getfield 54, 3) := by decide +kernel
theorem dX0_findHomes_20 : decode cX0_findHomes 20 = .ok (.iload_n 1, 1) := by decide +kernel
theorem dX0_findHomes_21 : decode cX0_findHomes 21 = .ok (.iaload, 1) := by decide +kernel
theorem dX0_findHomes_22 : decode cX0_findHomes 22 = .ok (.istore_n 2, 1) := by decide +kernel
theorem dX0_findHomes_23 : decode cX0_findHomes 23 = .ok (.aload_n 0, 1) := by decide +kernel
theorem dX0_findHomes_24 : decode cX0_findHomes 24 = .ok (.getfield 23, 3) := by decide +kernel
theorem dX0_findHomes_27 : decode cX0_findHomes 27 = .ok (.iload_n 1, 1) := by decide +kernel
theorem dX0_findHomes_28 : decode cX0_findHomes 28 = .ok (.aload_n 0, 1) := by decide +kernel
theorem dX0_findHomes_29 : decode cX0_findHomes 29 = .ok (.getfield 12, 3) := by decide +kernel
theorem dX0_findHomes_32 : decode cX0_findHomes 32 = .ok (.getfield 57, 3) := by decide +kernel
theorem dX0_findHomes_35 : decode cX0_findHomes 35 = .ok (.iload_n 1, 1) := by decide +kernel
theorem dX0_findHomes_36 : decode cX0_findHomes 36 = .ok (.laload, 1) := by decide +kernel
theorem dX0_findHomes_37 : decode cX0_findHomes 37 = .ok (.lconst 0, 1) := by decide +kernel
theorem dX0_findHomes_38 : decode cX0_findHomes 38 = .ok (.lcmp, 1) := by decide +kernel
theorem dX0_findHomes_39 : decode cX0_findHomes 39 = .ok (.ifCond .le 7, 3) := by decide +kernel
theorem dX0_findHomes_42 : decode cX0_findHomes 42 = .ok (.iload_n 1, 1) := by decide +kernel
theorem dX0_findHomes_43 : decode cX0_findHomes 43 = .ok (.goto 36, 3) := by decide +kernel
theorem dX0_findHomes_46 : decode cX0_findHomes 46 = .ok (.aload_n 0, 1) := by decide +kernel
theorem dX0_findHomes_47 : decode cX0_findHomes 47 = .ok (.getfield 12, 3) := by decide +kernel
theorem dX0_findHomes_50 : decode cX0_findHomes 50 = .ok (.aload_n 0, 1) := by decide +kernel
theorem dX0_findHomes_51 : decode cX0_findHomes 51 = .ok (.getfield 22, 3) := by decide +kernel
theorem dX0_findHomes_54 : decode cX0_findHomes 54 = .ok (.getfield 61, 3) := by decide +kernel
theorem dX0_findHomes_57 : decode cX0_findHomes 57 = .ok (.iload_n 2, 1) := by decide +kernel
theorem dX0_findHomes_58 : decode cX0_findHomes 58 = .ok (.iaload, 1) := by decide +kernel
theorem dX0_findHomes_59 : decode cX0_findHomes 59 = .ok (.aload_n 0, 1) := by decide +kernel
theorem dX0_findHomes_60 : decode cX0_findHomes 60 = .ok (.getfield 22, 3) := by decide +kernel
theorem dX0_findHomes_63 : decode cX0_findHomes 63 = .ok (.getfield 66, 3) := by decide +kernel
theorem dX0_findHomes_66 : decode cX0_findHomes 66 = .ok (.iload_n 2, 1) := by decide +kernel
theorem dX0_findHomes_67 : decode cX0_findHomes 67 = .ok (.iaload, 1) := by decide +kernel
theorem dX0_findHomes_68 : decode cX0_findHomes 68 = .ok (.aload_n 0, 1) := by decide +kernel
theorem dX0_findHomes_69 : decode cX0_findHomes 69 = .ok (.getfield 12, 3) := by decide +kernel
theorem dX0_findHomes_72 : decode cX0_findHomes 72 = .ok (.iload_n 1, 1) := by decide +kernel
theorem dX0_findHomes_73 : decode cX0_findHomes 73 = .ok (.invokevirtual 50, 3) := by decide +kernel
theorem dX0_findHomes_76 : decode cX0_findHomes 76 = .ok (.invokevirtual 69, 3) := by decide +kernel
theorem dX0_findHomes_79 : decode cX0_findHomes 79 = .ok (.iastore, 1) := by decide +kernel
theorem dX0_findHomes_80 : decode cX0_findHomes 80 = .ok (.iinc 1 1, 3) := by decide +kernel
theorem dX0_findHomes_83 : decode cX0_findHomes 83 = .ok (.goto (-81), 3) := by decide +kernel
theorem dX0_findHomes_86 : decode cX0_findHomes 86 = .ok (.return_, 1) := by decide +kernel
set_option maxRecDepth 20000 in
theorem ggX0_numberFaces_J7_fill_53178 : GoodIn wsX0_numberFaces wsJ7_fill_53178 := goodIn_r _ [12] (by decide +kernel) (by decide +kernel)
set_option maxRecDepth 20000 in
theorem gX0_numberFaces_J7_fill_53178 : GoodIn wsX0_numberFaces (va_wsS RX0 73 yJ7_fill_53178 wsJ7_fill_53178) := goodIn_app (goodIn_of _ (by decide +kernel)) ggX0_numberFaces_J7_fill_53178
set_option maxRecDepth 20000 in
theorem ggX0_numberFaces_X0_faceWithin : GoodIn wsX0_numberFaces wsX0_faceWithin := goodIn_r _ [17, 1, 18, 19, 20, 21, 22, 23, 24, 25] (by decide +kernel) (by decide +kernel)
set_option maxRecDepth 20000 in
theorem gX0_numberFaces_X0_faceWithin : GoodIn wsX0_numberFaces (wsV RX0 86 RX0 yX0_faceWithin wsX0_faceWithin) := goodIn_app (goodIn_of _ (by decide +kernel)) ggX0_numberFaces_X0_faceWithin
theorem dX0_numberFaces_0 : decode cX0_numberFaces 0 = .ok (.aload_n 0, 1) := by decide +kernel
theorem dX0_numberFaces_1 : decode cX0_numberFaces 1 = .ok (.getfield 27, 3) := by decide +kernel
theorem dX0_numberFaces_4 : decode cX0_numberFaces 4 = .ok (.iconst 0, 1) := by decide +kernel
theorem dX0_numberFaces_5 : decode cX0_numberFaces 5 = .ok (.invokestatic 73, 3) := by decide +kernel
theorem dX0_numberFaces_8 : decode cX0_numberFaces 8 = .ok (.aload_n 0, 1) := by decide +kernel
theorem dX0_numberFaces_9 : decode cX0_numberFaces 9 = .ok (.iconst 1, 1) := by decide +kernel
theorem dX0_numberFaces_10 : decode cX0_numberFaces 10 = .ok (.putfield 39, 3) := by decide +kernel
theorem dX0_numberFaces_13 : decode cX0_numberFaces 13 = .ok (.iconst 0, 1) := by decide +kernel
theorem dX0_numberFaces_14 : decode cX0_numberFaces 14 = .ok (.istore_n 1, 1) := by decide +kernel
theorem dX0_numberFaces_15 : decode cX0_numberFaces 15 = .ok (.iload_n 1, 1) := by decide +kernel
theorem dX0_numberFaces_16 : decode cX0_numberFaces 16 = .ok (.bipush 120, 2) := by decide +kernel
theorem dX0_numberFaces_18 : decode cX0_numberFaces 18 = .ok (.if_icmp .ge 93, 3) := by decide +kernel
theorem dX0_numberFaces_21 : decode cX0_numberFaces 21 = .ok (.aload_n 0, 1) := by decide +kernel
theorem dX0_numberFaces_22 : decode cX0_numberFaces 22 = .ok (.getfield 22, 3) := by decide +kernel
theorem dX0_numberFaces_25 : decode cX0_numberFaces 25 = .ok (.getfield 79, 3) := by decide +kernel
theorem dX0_numberFaces_28 : decode cX0_numberFaces 28 = .ok (.iload_n 1, 1) := by decide +kernel
theorem dX0_numberFaces_29 : decode cX0_numberFaces 29 = .ok (.iconst 1, 1) := by decide +kernel
theorem dX0_numberFaces_30 : decode cX0_numberFaces 30 = .ok (.ishr, 1) := by decide +kernel
theorem dX0_numberFaces_31 : decode cX0_numberFaces 31 = .ok (.baload, 1) := by decide +kernel
theorem dX0_numberFaces_32 : decode cX0_numberFaces 32 = .ok (.ifCond .eq 66, 3) := by decide +kernel
theorem dX0_numberFaces_35 : decode cX0_numberFaces 35 = .ok (.aload_n 0, 1) := by decide +kernel
theorem dX0_numberFaces_36 : decode cX0_numberFaces 36 = .ok (.getfield 23, 3) := by decide +kernel
theorem dX0_numberFaces_39 : decode cX0_numberFaces 39 = .ok (.aload_n 0, 1) := by decide +kernel
theorem dX0_numberFaces_40 : decode cX0_numberFaces 40 = .ok (.getfield 12, 3) := by decide +kernel
theorem dX0_numberFaces_43 : decode cX0_numberFaces 43 = .ok (.getfield 83, 3) := by decide +kernel
theorem dX0_numberFaces_46 : decode cX0_numberFaces 46 = .ok (.iload_n 1, 1) := by decide +kernel
theorem dX0_numberFaces_47 : decode cX0_numberFaces 47 = .ok (.iaload, 1) := by decide +kernel
theorem dX0_numberFaces_48 : decode cX0_numberFaces 48 = .ok (.iaload, 1) := by decide +kernel
theorem dX0_numberFaces_49 : decode cX0_numberFaces 49 = .ok (.istore_n 2, 1) := by decide +kernel
theorem dX0_numberFaces_50 : decode cX0_numberFaces 50 = .ok (.iload_n 2, 1) := by decide +kernel
theorem dX0_numberFaces_51 : decode cX0_numberFaces 51 = .ok (.iconst (-1), 1) := by decide +kernel
theorem dX0_numberFaces_52 : decode cX0_numberFaces 52 = .ok (.if_icmp .eq 32, 3) := by decide +kernel
theorem dX0_numberFaces_55 : decode cX0_numberFaces 55 = .ok (.aload_n 0, 1) := by decide +kernel
theorem dX0_numberFaces_56 : decode cX0_numberFaces 56 = .ok (.getfield 27, 3) := by decide +kernel
theorem dX0_numberFaces_59 : decode cX0_numberFaces 59 = .ok (.iload_n 2, 1) := by decide +kernel
theorem dX0_numberFaces_60 : decode cX0_numberFaces 60 = .ok (.iaload, 1) := by decide +kernel
theorem dX0_numberFaces_61 : decode cX0_numberFaces 61 = .ok (.ifCond .ne 23, 3) := by decide +kernel
theorem dX0_numberFaces_64 : decode cX0_numberFaces 64 = .ok (.aload_n 0, 1) := by decide +kernel
theorem dX0_numberFaces_65 : decode cX0_numberFaces 65 = .ok (.getfield 27, 3) := by decide +kernel
theorem dX0_numberFaces_68 : decode cX0_numberFaces 68 = .ok (.iload_n 2, 1) := by decide +kernel
theorem dX0_numberFaces_69 : decode cX0_numberFaces 69 = .ok (.aload_n 0, 1) := by decide +kernel
theorem dX0_numberFaces_70 : decode cX0_numberFaces 70 = .ok (.getfield 39, 3) := by decide +kernel
theorem dX0_numberFaces_73 : decode cX0_numberFaces 73 = .ok (.iastore, 1) := by decide +kernel
theorem dX0_numberFaces_74 : decode cX0_numberFaces 74 = .ok (.aload_n 0, 1) := by decide +kernel
theorem dX0_numberFaces_75 : decode cX0_numberFaces 75 = .ok (.dup, 1) := by decide +kernel
theorem dX0_numberFaces_76 : decode cX0_numberFaces 76 = .ok (.getfield 39, 3) := by decide +kernel
theorem dX0_numberFaces_79 : decode cX0_numberFaces 79 = .ok (.iconst 1, 1) := by decide +kernel
theorem dX0_numberFaces_80 : decode cX0_numberFaces 80 = .ok (.iadd, 1) := by decide +kernel
theorem dX0_numberFaces_81 : decode cX0_numberFaces 81 = .ok (.putfield 39, 3) := by decide +kernel
theorem dX0_numberFaces_84 : decode cX0_numberFaces 84 = .ok (.aload_n 0, 1) := by decide +kernel
theorem dX0_numberFaces_85 : decode cX0_numberFaces 85 = .ok (.getfield 30, 3) := by decide +kernel
theorem dX0_numberFaces_88 : decode cX0_numberFaces 88 = .ok (.iload_n 1, 1) := by decide +kernel
theorem dX0_numberFaces_89 : decode cX0_numberFaces 89 = .ok (.aload_n 0, 1) := by decide +kernel
theorem dX0_numberFaces_90 : decode cX0_numberFaces 90 = .ok (.iload_n 2, 1) := by decide +kernel
theorem dX0_numberFaces_91 : decode cX0_numberFaces 91 = .ok (.invokevirtual 86, 3) := by decide +kernel
theorem dX0_numberFaces_94 : decode cX0_numberFaces 94 = .ok (.iastore, 1) := by decide +kernel
theorem dX0_numberFaces_95 : decode cX0_numberFaces 95 = .ok (.goto 10, 3) := by decide +kernel
theorem dX0_numberFaces_98 : decode cX0_numberFaces 98 = .ok (.aload_n 0, 1) := by decide +kernel
theorem dX0_numberFaces_99 : decode cX0_numberFaces 99 = .ok (.getfield 30, 3) := by decide +kernel
theorem dX0_numberFaces_102 : decode cX0_numberFaces 102 = .ok (.iload_n 1, 1) := by decide +kernel
theorem dX0_numberFaces_103 : decode cX0_numberFaces 103 = .ok (.iconst (-1), 1) := by decide +kernel
theorem dX0_numberFaces_104 : decode cX0_numberFaces 104 = .ok (.iastore, 1) := by decide +kernel
theorem dX0_numberFaces_105 : decode cX0_numberFaces 105 = .ok (.iinc 1 1, 3) := by decide +kernel
theorem dX0_numberFaces_108 : decode cX0_numberFaces 108 = .ok (.goto (-93), 3) := by decide +kernel
theorem dX0_numberFaces_111 : decode cX0_numberFaces 111 = .ok (.return_, 1) := by decide +kernel
theorem dX0_faceWithin_0 : decode cX0_faceWithin 0 = .ok (.iload_n 1, 1) := by decide +kernel
theorem dX0_faceWithin_1 : decode cX0_faceWithin 1 = .ok (.iconst (-1), 1) := by decide +kernel
theorem dX0_faceWithin_2 : decode cX0_faceWithin 2 = .ok (.if_icmp .ne 7, 3) := by decide +kernel
theorem dX0_faceWithin_5 : decode cX0_faceWithin 5 = .ok (.iconst 0, 1) := by decide +kernel
theorem dX0_faceWithin_6 : decode cX0_faceWithin 6 = .ok (.goto 9, 3) := by decide +kernel
theorem dX0_faceWithin_9 : decode cX0_faceWithin 9 = .ok (.aload_n 0, 1) := by decide +kernel
theorem dX0_faceWithin_10 : decode cX0_faceWithin 10 = .ok (.getfield 27, 3) := by decide +kernel
theorem dX0_faceWithin_13 : decode cX0_faceWithin 13 = .ok (.iload_n 1, 1) := by decide +kernel
theorem dX0_faceWithin_14 : decode cX0_faceWithin 14 = .ok (.iaload, 1) := by decide +kernel
theorem dX0_faceWithin_15 : decode cX0_faceWithin 15 = .ok (.ireturn, 1) := by decide +kernel
theorem dX0_bridges_0 : decode cX0_bridges 0 = .ok (.iconst 0, 1) := by decide +kernel
theorem dX0_bridges_1 : decode cX0_bridges 1 = .ok (.istore_n 1, 1) := by decide +kernel
theorem dX0_bridges_2 : decode cX0_bridges 2 = .ok (.iconst 0, 1) := by decide +kernel
theorem dX0_bridges_3 : decode cX0_bridges 3 = .ok (.istore_n 2, 1) := by decide +kernel
theorem dX0_bridges_4 : decode cX0_bridges 4 = .ok (.iload_n 2, 1) := by decide +kernel
theorem dX0_bridges_5 : decode cX0_bridges 5 = .ok (.bipush 60, 2) := by decide +kernel
theorem dX0_bridges_7 : decode cX0_bridges 7 = .ok (.if_icmp .ge 45, 3) := by decide +kernel
theorem dX0_bridges_10 : decode cX0_bridges 10 = .ok (.aload_n 0, 1) := by decide +kernel
theorem dX0_bridges_11 : decode cX0_bridges 11 = .ok (.getfield 22, 3) := by decide +kernel
theorem dX0_bridges_14 : decode cX0_bridges 14 = .ok (.getfield 79, 3) := by decide +kernel
theorem dX0_bridges_17 : decode cX0_bridges 17 = .ok (.iload_n 2, 1) := by decide +kernel
theorem dX0_bridges_18 : decode cX0_bridges 18 = .ok (.baload, 1) := by decide +kernel
theorem dX0_bridges_19 : decode cX0_bridges 19 = .ok (.ifCond .eq 27, 3) := by decide +kernel
theorem dX0_bridges_22 : decode cX0_bridges 22 = .ok (.aload_n 0, 1) := by decide +kernel
theorem dX0_bridges_23 : decode cX0_bridges 23 = .ok (.getfield 30, 3) := by decide +kernel
theorem dX0_bridges_26 : decode cX0_bridges 26 = .ok (.iconst 2, 1) := by decide +kernel
theorem dX0_bridges_27 : decode cX0_bridges 27 = .ok (.iload_n 2, 1) := by decide +kernel
theorem dX0_bridges_28 : decode cX0_bridges 28 = .ok (.imul, 1) := by decide +kernel
theorem dX0_bridges_29 : decode cX0_bridges 29 = .ok (.iaload, 1) := by decide +kernel
theorem dX0_bridges_30 : decode cX0_bridges 30 = .ok (.aload_n 0, 1) := by decide +kernel
theorem dX0_bridges_31 : decode cX0_bridges 31 = .ok (.getfield 30, 3) := by decide +kernel
theorem dX0_bridges_34 : decode cX0_bridges 34 = .ok (.iconst 2, 1) := by decide +kernel
theorem dX0_bridges_35 : decode cX0_bridges 35 = .ok (.iload_n 2, 1) := by decide +kernel
theorem dX0_bridges_36 : decode cX0_bridges 36 = .ok (.imul, 1) := by decide +kernel
theorem dX0_bridges_37 : decode cX0_bridges 37 = .ok (.iconst 1, 1) := by decide +kernel
theorem dX0_bridges_38 : decode cX0_bridges 38 = .ok (.iadd, 1) := by decide +kernel
theorem dX0_bridges_39 : decode cX0_bridges 39 = .ok (.iaload, 1) := by decide +kernel
theorem dX0_bridges_40 : decode cX0_bridges 40 = .ok (.if_icmp .ne 6, 3) := by decide +kernel
theorem dX0_bridges_43 : decode cX0_bridges 43 = .ok (.iinc 1 1, 3) := by decide +kernel
theorem dX0_bridges_46 : decode cX0_bridges 46 = .ok (.iinc 2 1, 3) := by decide +kernel
theorem dX0_bridges_49 : decode cX0_bridges 49 = .ok (.goto (-45), 3) := by decide +kernel
theorem dX0_bridges_52 : decode cX0_bridges 52 = .ok (.iload_n 1, 1) := by decide +kernel
theorem dX0_bridges_53 : decode cX0_bridges 53 = .ok (.ireturn, 1) := by decide +kernel
theorem dX0_twiceArea_0 : decode cX0_twiceArea 0 = .ok (.lconst 0, 1) := by decide +kernel
theorem dX0_twiceArea_1 : decode cX0_twiceArea 1 = .ok (.lstore_n 2, 1) := by decide +kernel
theorem dX0_twiceArea_2 : decode cX0_twiceArea 2 = .ok (.iconst 0, 1) := by decide +kernel
theorem dX0_twiceArea_3 : decode cX0_twiceArea 3 = .ok (.istore 4, 2) := by decide +kernel
theorem dX0_twiceArea_5 : decode cX0_twiceArea 5 = .ok (.iload 4, 2) := by decide +kernel
theorem dX0_twiceArea_7 : decode cX0_twiceArea 7 = .ok (.aload_n 0, 1) := by decide +kernel
theorem dX0_twiceArea_8 : decode cX0_twiceArea 8 = .ok (.getfield 12, 3) := by decide +kernel
theorem dX0_twiceArea_11 : decode cX0_twiceArea 11 = .ok (.getfield 49, 3) := by decide +kernel
theorem dX0_twiceArea_14 : decode cX0_twiceArea 14 = .ok (.if_icmp .ge 41, 3) := by decide +kernel
theorem dX0_twiceArea_17 : decode cX0_twiceArea 17 = .ok (.aload_n 0, 1) := by decide +kernel
theorem dX0_twiceArea_18 : decode cX0_twiceArea 18 = .ok (.getfield 30, 3) := by decide +kernel
theorem dX0_twiceArea_21 : decode cX0_twiceArea 21 = .ok (.aload_n 0, 1) := by decide +kernel
theorem dX0_twiceArea_22 : decode cX0_twiceArea 22 = .ok (.getfield 12, 3) := by decide +kernel
theorem dX0_twiceArea_25 : decode cX0_twiceArea 25 = .ok (.getfield 54, 3) := by decide +kernel
theorem dX0_twiceArea_28 : decode cX0_twiceArea 28 = .ok (.iload 4, 2) := by decide +kernel
theorem dX0_twiceArea_30 : decode cX0_twiceArea 30 = .ok (.iaload, 1) := by decide +kernel
theorem dX0_twiceArea_31 : decode cX0_twiceArea 31 = .ok (.iaload, 1) := by decide +kernel
theorem dX0_twiceArea_32 : decode cX0_twiceArea 32 = .ok (.iload_n 1, 1) := by decide +kernel
theorem dX0_twiceArea_33 : decode cX0_twiceArea 33 = .ok (.if_icmp .ne 16, 3) := by decide +kernel
theorem dX0_twiceArea_36 : decode cX0_twiceArea 36 = .ok (.lload_n 2, 1) := by decide +kernel
theorem dX0_twiceArea_37 : decode cX0_twiceArea 37 = .ok (.aload_n 0, 1) := by decide +kernel
theorem dX0_twiceArea_38 : decode cX0_twiceArea 38 = .ok (.getfield 12, 3) := by decide +kernel
theorem dX0_twiceArea_41 : decode cX0_twiceArea 41 = .ok (.getfield 57, 3) := by decide +kernel
theorem dX0_twiceArea_44 : decode cX0_twiceArea 44 = .ok (.iload 4, 2) := by decide +kernel
theorem dX0_twiceArea_46 : decode cX0_twiceArea 46 = .ok (.laload, 1) := by decide +kernel
theorem dX0_twiceArea_47 : decode cX0_twiceArea 47 = .ok (.ladd, 1) := by decide +kernel
theorem dX0_twiceArea_48 : decode cX0_twiceArea 48 = .ok (.lstore_n 2, 1) := by decide +kernel
theorem dX0_twiceArea_49 : decode cX0_twiceArea 49 = .ok (.iinc 4 1, 3) := by decide +kernel
theorem dX0_twiceArea_52 : decode cX0_twiceArea 52 = .ok (.goto (-47), 3) := by decide +kernel
theorem dX0_twiceArea_55 : decode cX0_twiceArea 55 = .ok (.lload_n 2, 1) := by decide +kernel
theorem dX0_twiceArea_56 : decode cX0_twiceArea 56 = .ok (.lreturn, 1) := by decide +kernel
theorem dX0_roundsOf_0 : decode cX0_roundsOf 0 = .ok (.iconst 0, 1) := by decide +kernel
theorem dX0_roundsOf_1 : decode cX0_roundsOf 1 = .ok (.istore_n 2, 1) := by decide +kernel
theorem dX0_roundsOf_2 : decode cX0_roundsOf 2 = .ok (.iconst 0, 1) := by decide +kernel
theorem dX0_roundsOf_3 : decode cX0_roundsOf 3 = .ok (.istore_n 3, 1) := by decide +kernel
theorem dX0_roundsOf_4 : decode cX0_roundsOf 4 = .ok (.iload_n 3, 1) := by decide +kernel
theorem dX0_roundsOf_5 : decode cX0_roundsOf 5 = .ok (.aload_n 0, 1) := by decide +kernel
theorem dX0_roundsOf_6 : decode cX0_roundsOf 6 = .ok (.getfield 12, 3) := by decide +kernel
theorem dX0_roundsOf_9 : decode cX0_roundsOf 9 = .ok (.getfield 49, 3) := by decide +kernel
theorem dX0_roundsOf_12 : decode cX0_roundsOf 12 = .ok (.if_icmp .ge 30, 3) := by decide +kernel
theorem dX0_roundsOf_15 : decode cX0_roundsOf 15 = .ok (.aload_n 0, 1) := by decide +kernel
theorem dX0_roundsOf_16 : decode cX0_roundsOf 16 = .ok (.getfield 30, 3) := by decide +kernel
theorem dX0_roundsOf_19 : decode cX0_roundsOf 19 = .ok (.aload_n 0, 1) := by decide +kernel
theorem dX0_roundsOf_20 : decode cX0_roundsOf 20 = .ok (.getfield 12, 3) := by decide +kernel
theorem dX0_roundsOf_23 : decode cX0_roundsOf 23 = .ok (.getfield 54, 3) := by decide +kernel
theorem dX0_roundsOf_26 : decode cX0_roundsOf 26 = .ok (.iload_n 3, 1) := by decide +kernel
theorem dX0_roundsOf_27 : decode cX0_roundsOf 27 = .ok (.iaload, 1) := by decide +kernel
theorem dX0_roundsOf_28 : decode cX0_roundsOf 28 = .ok (.iaload, 1) := by decide +kernel
theorem dX0_roundsOf_29 : decode cX0_roundsOf 29 = .ok (.iload_n 1, 1) := by decide +kernel
theorem dX0_roundsOf_30 : decode cX0_roundsOf 30 = .ok (.if_icmp .ne 6, 3) := by decide +kernel
theorem dX0_roundsOf_33 : decode cX0_roundsOf 33 = .ok (.iinc 2 1, 3) := by decide +kernel
theorem dX0_roundsOf_36 : decode cX0_roundsOf 36 = .ok (.iinc 3 1, 3) := by decide +kernel
theorem dX0_roundsOf_39 : decode cX0_roundsOf 39 = .ok (.goto (-35), 3) := by decide +kernel
theorem dX0_roundsOf_42 : decode cX0_roundsOf 42 = .ok (.iload_n 2, 1) := by decide +kernel
theorem dX0_roundsOf_43 : decode cX0_roundsOf 43 = .ok (.ireturn, 1) := by decide +kernel
theorem dX0_halvesOf_0 : decode cX0_halvesOf 0 = .ok (.iconst 0, 1) := by decide +kernel
theorem dX0_halvesOf_1 : decode cX0_halvesOf 1 = .ok (.istore_n 2, 1) := by decide +kernel
theorem dX0_halvesOf_2 : decode cX0_halvesOf 2 = .ok (.iconst 0, 1) := by decide +kernel
theorem dX0_halvesOf_3 : decode cX0_halvesOf 3 = .ok (.istore_n 3, 1) := by decide +kernel
theorem dX0_halvesOf_4 : decode cX0_halvesOf 4 = .ok (.iload_n 3, 1) := by decide +kernel
theorem dX0_halvesOf_5 : decode cX0_halvesOf 5 = .ok (.bipush 120, 2) := by decide +kernel
theorem dX0_halvesOf_7 : decode cX0_halvesOf 7 = .ok (.if_icmp .ge 36, 3) := by decide +kernel
theorem dX0_halvesOf_10 : decode cX0_halvesOf 10 = .ok (.aload_n 0, 1) := by decide +kernel
theorem dX0_halvesOf_11 : decode cX0_halvesOf 11 = .ok (.getfield 22, 3) := by decide +kernel
theorem dX0_halvesOf_14 : decode cX0_halvesOf 14 = .ok (.getfield 79, 3) := by decide +kernel
theorem dX0_halvesOf_17 : decode cX0_halvesOf 17 = .ok (.iload_n 3, 1) := by decide +kernel
theorem dX0_halvesOf_18 : decode cX0_halvesOf 18 = .ok (.iconst 1, 1) := by decide +kernel
theorem dX0_halvesOf_19 : decode cX0_halvesOf 19 = .ok (.ishr, 1) := by decide +kernel
theorem dX0_halvesOf_20 : decode cX0_halvesOf 20 = .ok (.baload, 1) := by decide +kernel
theorem dX0_halvesOf_21 : decode cX0_halvesOf 21 = .ok (.ifCond .eq 16, 3) := by decide +kernel
theorem dX0_halvesOf_24 : decode cX0_halvesOf 24 = .ok (.aload_n 0, 1) := by decide +kernel
theorem dX0_halvesOf_25 : decode cX0_halvesOf 25 = .ok (.getfield 30, 3) := by decide +kernel
theorem dX0_halvesOf_28 : decode cX0_halvesOf 28 = .ok (.iload_n 3, 1) := by decide +kernel
theorem dX0_halvesOf_29 : decode cX0_halvesOf 29 = .ok (.iaload, 1) := by decide +kernel
theorem dX0_halvesOf_30 : decode cX0_halvesOf 30 = .ok (.iload_n 1, 1) := by decide +kernel
theorem dX0_halvesOf_31 : decode cX0_halvesOf 31 = .ok (.if_icmp .ne 6, 3) := by decide +kernel
theorem dX0_halvesOf_34 : decode cX0_halvesOf 34 = .ok (.iinc 2 1, 3) := by decide +kernel
theorem dX0_halvesOf_37 : decode cX0_halvesOf 37 = .ok (.iinc 3 1, 3) := by decide +kernel
theorem dX0_halvesOf_40 : decode cX0_halvesOf 40 = .ok (.goto (-36), 3) := by decide +kernel
theorem dX0_halvesOf_43 : decode cX0_halvesOf 43 = .ok (.iload_n 2, 1) := by decide +kernel
theorem dX0_halvesOf_44 : decode cX0_halvesOf 44 = .ok (.ireturn, 1) := by decide +kernel
theorem dX0_leastHalfOf_0 : decode cX0_leastHalfOf 0 = .ok (.iconst 0, 1) := by decide +kernel
theorem dX0_leastHalfOf_1 : decode cX0_leastHalfOf 1 = .ok (.istore_n 2, 1) := by decide +kernel
theorem dX0_leastHalfOf_2 : decode cX0_leastHalfOf 2 = .ok (.iload_n 2, 1) := by decide +kernel
theorem dX0_leastHalfOf_3 : decode cX0_leastHalfOf 3 = .ok (.bipush 120, 2) := by decide +kernel
theorem dX0_leastHalfOf_5 : decode cX0_leastHalfOf 5 = .ok (.if_icmp .ge 35, 3) := by decide +kernel
theorem dX0_leastHalfOf_8 : decode cX0_leastHalfOf 8 = .ok (.aload_n 0, 1) := by decide +kernel
theorem dX0_leastHalfOf_9 : decode cX0_leastHalfOf 9 = .ok (.getfield 22, 3) := by decide +kernel
theorem dX0_leastHalfOf_12 : decode cX0_leastHalfOf 12 = .ok (.getfield 79, 3) := by decide +kernel
theorem dX0_leastHalfOf_15 : decode cX0_leastHalfOf 15 = .ok (.iload_n 2, 1) := by decide +kernel
theorem dX0_leastHalfOf_16 : decode cX0_leastHalfOf 16 = .ok (.iconst 1, 1) := by decide +kernel
theorem dX0_leastHalfOf_17 : decode cX0_leastHalfOf 17 = .ok (.ishr, 1) := by decide +kernel
theorem dX0_leastHalfOf_18 : decode cX0_leastHalfOf 18 = .ok (.baload, 1) := by decide +kernel
theorem dX0_leastHalfOf_19 : decode cX0_leastHalfOf 19 = .ok (.ifCond .eq 15, 3) := by decide +kernel
theorem dX0_leastHalfOf_22 : decode cX0_leastHalfOf 22 = .ok (.aload_n 0, 1) := by decide +kernel
theorem dX0_leastHalfOf_23 : decode cX0_leastHalfOf 23 = .ok (.getfield 30, 3) := by decide +kernel
theorem dX0_leastHalfOf_26 : decode cX0_leastHalfOf 26 = .ok (.iload_n 2, 1) := by decide +kernel
theorem dX0_leastHalfOf_27 : decode cX0_leastHalfOf 27 = .ok (.iaload, 1) := by decide +kernel
theorem dX0_leastHalfOf_28 : decode cX0_leastHalfOf 28 = .ok (.iload_n 1, 1) := by decide +kernel
theorem dX0_leastHalfOf_29 : decode cX0_leastHalfOf 29 = .ok (.if_icmp .ne 5, 3) := by decide +kernel
theorem dX0_leastHalfOf_32 : decode cX0_leastHalfOf 32 = .ok (.iload_n 2, 1) := by decide +kernel
theorem dX0_leastHalfOf_33 : decode cX0_leastHalfOf 33 = .ok (.ireturn, 1) := by decide +kernel
theorem dX0_leastHalfOf_34 : decode cX0_leastHalfOf 34 = .ok (.iinc 2 1, 3) := by decide +kernel
theorem dX0_leastHalfOf_37 : decode cX0_leastHalfOf 37 = .ok (.goto (-35), 3) := by decide +kernel
theorem dX0_leastHalfOf_40 : decode cX0_leastHalfOf 40 = .ok (.iconst (-1), 1) := by decide +kernel
theorem dX0_leastHalfOf_41 : decode cX0_leastHalfOf 41 = .ok (.ireturn, 1) := by decide +kernel
theorem dX0_piecesIn_0 : decode cX0_piecesIn 0 = .ok (.iconst 0, 1) := by decide +kernel
theorem dX0_piecesIn_1 : decode cX0_piecesIn 1 = .ok (.istore_n 2, 1) := by decide +kernel
theorem dX0_piecesIn_2 : decode cX0_piecesIn 2 = .ok (.iconst 0, 1) := by decide +kernel
theorem dX0_piecesIn_3 : decode cX0_piecesIn 3 = .ok (.istore_n 3, 1) := by decide +kernel
theorem dX0_piecesIn_4 : decode cX0_piecesIn 4 = .ok (.iload_n 3, 1) := by decide +kernel
theorem dX0_piecesIn_5 : decode cX0_piecesIn 5 = .ok (.aload_n 0, 1) := by decide +kernel
theorem dX0_piecesIn_6 : decode cX0_piecesIn 6 = .ok (.getfield 12, 3) := by decide +kernel
theorem dX0_piecesIn_9 : decode cX0_piecesIn 9 = .ok (.getfield 89, 3) := by decide +kernel
theorem dX0_piecesIn_12 : decode cX0_piecesIn 12 = .ok (.if_icmp .ge 22, 3) := by decide +kernel
theorem dX0_piecesIn_15 : decode cX0_piecesIn 15 = .ok (.aload_n 0, 1) := by decide +kernel
theorem dX0_piecesIn_16 : decode cX0_piecesIn 16 = .ok (.getfield 33, 3) := by decide +kernel
theorem dX0_piecesIn_19 : decode cX0_piecesIn 19 = .ok (.iload_n 3, 1) := by decide +kernel
theorem dX0_piecesIn_20 : decode cX0_piecesIn 20 = .ok (.iaload, 1) := by decide +kernel
theorem dX0_piecesIn_21 : decode cX0_piecesIn 21 = .ok (.iload_n 1, 1) := by decide +kernel
theorem dX0_piecesIn_22 : decode cX0_piecesIn 22 = .ok (.if_icmp .ne 6, 3) := by decide +kernel
theorem dX0_piecesIn_25 : decode cX0_piecesIn 25 = .ok (.iinc 2 1, 3) := by decide +kernel
theorem dX0_piecesIn_28 : decode cX0_piecesIn 28 = .ok (.iinc 3 1, 3) := by decide +kernel
theorem dX0_piecesIn_31 : decode cX0_piecesIn 31 = .ok (.goto (-27), 3) := by decide +kernel
theorem dX0_piecesIn_34 : decode cX0_piecesIn 34 = .ok (.iload_n 2, 1) := by decide +kernel
theorem dX0_piecesIn_35 : decode cX0_piecesIn 35 = .ok (.ireturn, 1) := by decide +kernel
set_option maxRecDepth 20000 in
theorem ggX0_crossings_J7_fill_53178 : GoodIn wsX0_crossings wsJ7_fill_53178 := goodIn_r _ [9] (by decide +kernel) (by decide +kernel)
set_option maxRecDepth 20000 in
theorem gX0_crossings_J7_fill_53178 : GoodIn wsX0_crossings (va_wsS RX0 73 yJ7_fill_53178 wsJ7_fill_53178) := goodIn_app (goodIn_of _ (by decide +kernel)) ggX0_crossings_J7_fill_53178
set_option maxRecDepth 20000 in
theorem ggX0_crossings_X0_cross : GoodIn wsX0_crossings wsX0_cross := goodIn_r _ [14, 1, 15, 16, 17, 18, 19, 20, 21, 22] (by decide +kernel) (by decide +kernel)
set_option maxRecDepth 20000 in
theorem gX0_crossings_X0_cross : GoodIn wsX0_crossings (wsV RX0 92 RX0 yX0_cross wsX0_cross) := goodIn_app (goodIn_of _ (by decide +kernel)) ggX0_crossings_X0_cross
theorem dX0_crossings_0 : decode cX0_crossings 0 = .ok (.aload_n 0, 1) := by decide +kernel
theorem dX0_crossings_1 : decode cX0_crossings 1 = .ok (.getfield 36, 3) := by decide +kernel
theorem dX0_crossings_4 : decode cX0_crossings 4 = .ok (.iconst (-1), 1) := by decide +kernel
theorem dX0_crossings_5 : decode cX0_crossings 5 = .ok (.invokestatic 73, 3) := by decide +kernel
theorem dX0_crossings_8 : decode cX0_crossings 8 = .ok (.aload_n 0, 1) := by decide +kernel
theorem dX0_crossings_9 : decode cX0_crossings 9 = .ok (.getfield 36, 3) := by decide +kernel
theorem dX0_crossings_12 : decode cX0_crossings 12 = .ok (.iload_n 1, 1) := by decide +kernel
theorem dX0_crossings_13 : decode cX0_crossings 13 = .ok (.iconst 0, 1) := by decide +kernel
theorem dX0_crossings_14 : decode cX0_crossings 14 = .ok (.iastore, 1) := by decide +kernel
theorem dX0_crossings_15 : decode cX0_crossings 15 = .ok (.iconst 0, 1) := by decide +kernel
theorem dX0_crossings_16 : decode cX0_crossings 16 = .ok (.istore_n 3, 1) := by decide +kernel
theorem dX0_crossings_17 : decode cX0_crossings 17 = .ok (.iload_n 3, 1) := by decide +kernel
theorem dX0_crossings_18 : decode cX0_crossings 18 = .ok (.aload_n 0, 1) := by decide +kernel
theorem dX0_crossings_19 : decode cX0_crossings 19 = .ok (.getfield 39, 3) := by decide +kernel
theorem dX0_crossings_22 : decode cX0_crossings 22 = .ok (.if_icmp .ge 98, 3) := by decide +kernel
theorem dX0_crossings_25 : decode cX0_crossings 25 = .ok (.aload_n 0, 1) := by decide +kernel
theorem dX0_crossings_26 : decode cX0_crossings 26 = .ok (.getfield 36, 3) := by decide +kernel
theorem dX0_crossings_29 : decode cX0_crossings 29 = .ok (.iload_n 2, 1) := by decide +kernel
theorem dX0_crossings_30 : decode cX0_crossings 30 = .ok (.iaload, 1) := by decide +kernel
theorem dX0_crossings_31 : decode cX0_crossings 31 = .ok (.iconst (-1), 1) := by decide +kernel
theorem dX0_crossings_32 : decode cX0_crossings 32 = .ok (.if_icmp .ne 88, 3) := by decide +kernel
theorem dX0_crossings_35 : decode cX0_crossings 35 = .ok (.iconst 0, 1) := by decide +kernel
theorem dX0_crossings_36 : decode cX0_crossings 36 = .ok (.istore 4, 2) := by decide +kernel
theorem dX0_crossings_38 : decode cX0_crossings 38 = .ok (.iload 4, 2) := by decide +kernel
theorem dX0_crossings_40 : decode cX0_crossings 40 = .ok (.bipush 60, 2) := by decide +kernel
theorem dX0_crossings_42 : decode cX0_crossings 42 = .ok (.if_icmp .ge 72, 3) := by decide +kernel
theorem dX0_crossings_45 : decode cX0_crossings 45 = .ok (.aload_n 0, 1) := by decide +kernel
theorem dX0_crossings_46 : decode cX0_crossings 46 = .ok (.getfield 22, 3) := by decide +kernel
theorem dX0_crossings_49 : decode cX0_crossings 49 = .ok (.getfield 79, 3) := by decide +kernel
theorem dX0_crossings_52 : decode cX0_crossings 52 = .ok (.iload 4, 2) := by decide +kernel
theorem dX0_crossings_54 : decode cX0_crossings 54 = .ok (.baload, 1) := by decide +kernel
theorem dX0_crossings_55 : decode cX0_crossings 55 = .ok (.ifCond .eq 53, 3) := by decide +kernel
theorem dX0_crossings_58 : decode cX0_crossings 58 = .ok (.aload_n 0, 1) := by decide +kernel
theorem dX0_crossings_59 : decode cX0_crossings 59 = .ok (.aload_n 0, 1) := by decide +kernel
theorem dX0_crossings_60 : decode cX0_crossings 60 = .ok (.getfield 30, 3) := by decide +kernel
theorem dX0_crossings_63 : decode cX0_crossings 63 = .ok (.iconst 2, 1) := by decide +kernel
theorem dX0_crossings_64 : decode cX0_crossings 64 = .ok (.iload 4, 2) := by decide +kernel
theorem dX0_crossings_66 : decode cX0_crossings 66 = .ok (.imul, 1) := by decide +kernel
theorem dX0_crossings_67 : decode cX0_crossings 67 = .ok (.iaload, 1) := by decide +kernel
theorem dX0_crossings_68 : decode cX0_crossings 68 = .ok (.aload_n 0, 1) := by decide +kernel
theorem dX0_crossings_69 : decode cX0_crossings 69 = .ok (.getfield 30, 3) := by decide +kernel
theorem dX0_crossings_72 : decode cX0_crossings 72 = .ok (.iconst 2, 1) := by decide +kernel
theorem dX0_crossings_73 : decode cX0_crossings 73 = .ok (.iload 4, 2) := by decide +kernel
theorem dX0_crossings_75 : decode cX0_crossings 75 = .ok (.imul, 1) := by decide +kernel
theorem dX0_crossings_76 : decode cX0_crossings 76 = .ok (.iconst 1, 1) := by decide +kernel
theorem dX0_crossings_77 : decode cX0_crossings 77 = .ok (.iadd, 1) := by decide +kernel
theorem dX0_crossings_78 : decode cX0_crossings 78 = .ok (.iaload, 1) := by decide +kernel
theorem dX0_crossings_79 : decode cX0_crossings 79 = .ok (.iload_n 3, 1) := by decide +kernel
theorem dX0_crossings_80 : decode cX0_crossings 80 = .ok (.invokevirtual 92, 3) := by decide +kernel
theorem dX0_crossings_83 : decode cX0_crossings 83 = .ok (.aload_n 0, 1) := by decide +kernel
theorem dX0_crossings_84 : decode cX0_crossings 84 = .ok (.aload_n 0, 1) := by decide +kernel
theorem dX0_crossings_85 : decode cX0_crossings 85 = .ok (.getfield 30, 3) := by decide +kernel
theorem dX0_crossings_88 : decode cX0_crossings 88 = .ok (.iconst 2, 1) := by decide +kernel
theorem dX0_crossings_89 : decode cX0_crossings 89 = .ok (.iload 4, 2) := by decide +kernel
theorem dX0_crossings_91 : decode cX0_crossings 91 = .ok (.imul, 1) := by decide +kernel
theorem dX0_crossings_92 : decode cX0_crossings 92 = .ok (.iconst 1, 1) := by decide +kernel
theorem dX0_crossings_93 : decode cX0_crossings 93 = .ok (.iadd, 1) := by decide +kernel
theorem dX0_crossings_94 : decode cX0_crossings 94 = .ok (.iaload, 1) := by decide +kernel
theorem dX0_crossings_95 : decode cX0_crossings 95 = .ok (.aload_n 0, 1) := by decide +kernel
theorem dX0_crossings_96 : decode cX0_crossings 96 = .ok (.getfield 30, 3) := by decide +kernel
theorem dX0_crossings_99 : decode cX0_crossings 99 = .ok (.iconst 2, 1) := by decide +kernel
theorem dX0_crossings_100 : decode cX0_crossings 100 = .ok (.iload 4, 2) := by decide +kernel
theorem dX0_crossings_102 : decode cX0_crossings 102 = .ok (.imul, 1) := by decide +kernel
theorem dX0_crossings_103 : decode cX0_crossings 103 = .ok (.iaload, 1) := by decide +kernel
theorem dX0_crossings_104 : decode cX0_crossings 104 = .ok (.iload_n 3, 1) := by decide +kernel
theorem dX0_crossings_105 : decode cX0_crossings 105 = .ok (.invokevirtual 92, 3) := by decide +kernel
theorem dX0_crossings_108 : decode cX0_crossings 108 = .ok (.iinc 4 1, 3) := by decide +kernel
theorem dX0_crossings_111 : decode cX0_crossings 111 = .ok (.goto (-73), 3) := by decide +kernel
theorem dX0_crossings_114 : decode cX0_crossings 114 = .ok (.iinc 3 1, 3) := by decide +kernel
theorem dX0_crossings_117 : decode cX0_crossings 117 = .ok (.goto (-100), 3) := by decide +kernel
theorem dX0_crossings_120 : decode cX0_crossings 120 = .ok (.aload_n 0, 1) := by decide +kernel
theorem dX0_crossings_121 : decode cX0_crossings 121 = .ok (.getfield 36, 3) := by decide +kernel
theorem dX0_crossings_124 : decode cX0_crossings 124 = .ok (.iload_n 2, 1) := by decide +kernel
theorem dX0_crossings_125 : decode cX0_crossings 125 = .ok (.iaload, 1) := by decide +kernel
theorem dX0_crossings_126 : decode cX0_crossings 126 = .ok (.ireturn, 1) := by decide +kernel
theorem dX0_cross_0 : decode cX0_cross 0 = .ok (.aload_n 0, 1) := by decide +kernel
theorem dX0_cross_1 : decode cX0_cross 1 = .ok (.getfield 36, 3) := by decide +kernel
theorem dX0_cross_4 : decode cX0_cross 4 = .ok (.iload_n 1, 1) := by decide +kernel
theorem dX0_cross_5 : decode cX0_cross 5 = .ok (.iaload, 1) := by decide +kernel
theorem dX0_cross_6 : decode cX0_cross 6 = .ok (.iload_n 3, 1) := by decide +kernel
theorem dX0_cross_7 : decode cX0_cross 7 = .ok (.if_icmp .ne 22, 3) := by decide +kernel
theorem dX0_cross_10 : decode cX0_cross 10 = .ok (.aload_n 0, 1) := by decide +kernel
theorem dX0_cross_11 : decode cX0_cross 11 = .ok (.getfield 36, 3) := by decide +kernel
theorem dX0_cross_14 : decode cX0_cross 14 = .ok (.iload_n 2, 1) := by decide +kernel
theorem dX0_cross_15 : decode cX0_cross 15 = .ok (.iaload, 1) := by decide +kernel
theorem dX0_cross_16 : decode cX0_cross 16 = .ok (.iconst (-1), 1) := by decide +kernel
theorem dX0_cross_17 : decode cX0_cross 17 = .ok (.if_icmp .ne 12, 3) := by decide +kernel
theorem dX0_cross_20 : decode cX0_cross 20 = .ok (.aload_n 0, 1) := by decide +kernel
theorem dX0_cross_21 : decode cX0_cross 21 = .ok (.getfield 36, 3) := by decide +kernel
theorem dX0_cross_24 : decode cX0_cross 24 = .ok (.iload_n 2, 1) := by decide +kernel
theorem dX0_cross_25 : decode cX0_cross 25 = .ok (.iload_n 3, 1) := by decide +kernel
theorem dX0_cross_26 : decode cX0_cross 26 = .ok (.iconst 1, 1) := by decide +kernel
theorem dX0_cross_27 : decode cX0_cross 27 = .ok (.iadd, 1) := by decide +kernel
theorem dX0_cross_28 : decode cX0_cross 28 = .ok (.iastore, 1) := by decide +kernel
theorem dX0_cross_29 : decode cX0_cross 29 = .ok (.return_, 1) := by decide +kernel
set_option maxRecDepth 20000 in
theorem ggX1_init_X2_init : GoodIn wsX1_init wsX2_init := goodIn_r _ [21, 22, 2, 3, 8, 23, 24, 25, 26, 27, 28, 29, 30, 31] (by decide +kernel) (by decide +kernel)
set_option maxRecDepth 20000 in
theorem gX1_init_X2_init_n11 : GoodIn wsX1_init (wsX2_init) := ggX1_init_X2_init
theorem dX1_init_0 : decode cX1_init 0 = .ok (.aload_n 0, 1) := by decide +kernel
theorem dX1_init_1 : decode cX1_init 1 = .ok (.invokespecial 3, 3) := by decide +kernel
theorem dX1_init_4 : decode cX1_init 4 = .ok (.aload_n 0, 1) := by decide +kernel
theorem dX1_init_5 : decode cX1_init 5 = .ok (.new 9, 3) := by decide +kernel
theorem dX1_init_8 : decode cX1_init 8 = .ok (.dup, 1) := by decide +kernel
theorem dX1_init_9 : decode cX1_init 9 = .ok (.invokespecial 11, 3) := by decide +kernel
theorem dX1_init_12 : decode cX1_init 12 = .ok (.putfield 12, 3) := by decide +kernel
theorem dX1_init_15 : decode cX1_init 15 = .ok (.aload_n 0, 1) := by decide +kernel
theorem dX1_init_16 : decode cX1_init 16 = .ok (.bipush 120, 2) := by decide +kernel
theorem dX1_init_18 : decode cX1_init 18 = .ok (.newarray .int, 2) := by decide +kernel
theorem dX1_init_20 : decode cX1_init 20 = .ok (.putfield 18, 3) := by decide +kernel
theorem dX1_init_23 : decode cX1_init 23 = .ok (.aload_n 0, 1) := by decide +kernel
theorem dX1_init_24 : decode cX1_init 24 = .ok (.bipush 120, 2) := by decide +kernel
theorem dX1_init_26 : decode cX1_init 26 = .ok (.newarray .int, 2) := by decide +kernel
theorem dX1_init_28 : decode cX1_init 28 = .ok (.putfield 22, 3) := by decide +kernel
theorem dX1_init_31 : decode cX1_init 31 = .ok (.aload_n 0, 1) := by decide +kernel
theorem dX1_init_32 : decode cX1_init 32 = .ok (.bipush 60, 2) := by decide +kernel
theorem dX1_init_34 : decode cX1_init 34 = .ok (.newarray .int, 2) := by decide +kernel
theorem dX1_init_36 : decode cX1_init 36 = .ok (.putfield 25, 3) := by decide +kernel
theorem dX1_init_39 : decode cX1_init 39 = .ok (.aload_n 0, 1) := by decide +kernel
theorem dX1_init_40 : decode cX1_init 40 = .ok (.bipush 60, 2) := by decide +kernel
theorem dX1_init_42 : decode cX1_init 42 = .ok (.newarray .int, 2) := by decide +kernel
theorem dX1_init_44 : decode cX1_init 44 = .ok (.putfield 28, 3) := by decide +kernel
theorem dX1_init_47 : decode cX1_init 47 = .ok (.aload_n 0, 1) := by decide +kernel
theorem dX1_init_48 : decode cX1_init 48 = .ok (.iconst 0, 1) := by decide +kernel
theorem dX1_init_49 : decode cX1_init 49 = .ok (.putfield 31, 3) := by decide +kernel
theorem dX1_init_52 : decode cX1_init 52 = .ok (.aload_n 0, 1) := by decide +kernel
theorem dX1_init_53 : decode cX1_init 53 = .ok (.bipush 120, 2) := by decide +kernel
theorem dX1_init_55 : decode cX1_init 55 = .ok (.newarray .int, 2) := by decide +kernel
theorem dX1_init_57 : decode cX1_init 57 = .ok (.putfield 35, 3) := by decide +kernel
theorem dX1_init_60 : decode cX1_init 60 = .ok (.aload_n 0, 1) := by decide +kernel
theorem dX1_init_61 : decode cX1_init 61 = .ok (.bipush 120, 2) := by decide +kernel
theorem dX1_init_63 : decode cX1_init 63 = .ok (.newarray .int, 2) := by decide +kernel
theorem dX1_init_65 : decode cX1_init 65 = .ok (.putfield 38, 3) := by decide +kernel
theorem dX1_init_68 : decode cX1_init 68 = .ok (.aload_n 0, 1) := by decide +kernel
theorem dX1_init_69 : decode cX1_init 69 = .ok (.bipush 120, 2) := by decide +kernel
theorem dX1_init_71 : decode cX1_init 71 = .ok (.newarray .long, 2) := by decide +kernel
theorem dX1_init_73 : decode cX1_init 73 = .ok (.putfield 41, 3) := by decide +kernel
theorem dX1_init_76 : decode cX1_init 76 = .ok (.aload_n 0, 1) := by decide +kernel
theorem dX1_init_77 : decode cX1_init 77 = .ok (.bipush 120, 2) := by decide +kernel
theorem dX1_init_79 : decode cX1_init 79 = .ok (.newarray .int, 2) := by decide +kernel
theorem dX1_init_81 : decode cX1_init 81 = .ok (.putfield 45, 3) := by decide +kernel
theorem dX1_init_84 : decode cX1_init 84 = .ok (.aload_n 0, 1) := by decide +kernel
theorem dX1_init_85 : decode cX1_init 85 = .ok (.iconst 0, 1) := by decide +kernel
theorem dX1_init_86 : decode cX1_init 86 = .ok (.putfield 48, 3) := by decide +kernel
theorem dX1_init_89 : decode cX1_init 89 = .ok (.return_, 1) := by decide +kernel
set_option maxRecDepth 20000 in
theorem ggX1_trace_X1_findCorners : GoodIn wsX1_trace wsX1_findCorners := goodIn_r _ [8, 9, 2, 3, 10, 11, 12, 13, 14, 15, 16, 17, 18, 19, 77, 78, 79, 80, 81, 82, 83, 84, 85, 86, 87, 88, 89, 90, 91] (by decide +kernel) (by decide +kernel)
set_option maxRecDepth 20000 in
theorem gX1_trace_X1_findCorners : GoodIn wsX1_trace (wsV RX1 51 RX1 yX1_findCorners wsX1_findCorners) := goodIn_app (goodIn_of _ (by decide +kernel)) ggX1_trace_X1_findCorners
set_option maxRecDepth 20000 in
theorem ggX1_trace_X1_firstClockwise : GoodIn wsX1_trace wsX1_firstClockwise := goodIn_r _ [23, 9, 2, 24, 25, 26, 15, 27, 28, 29, 30, 31, 18, 19, 32, 33, 34, 77, 78, 79, 80, 81, 82, 83, 84, 85, 86, 87, 88, 89, 90, 91] (by decide +kernel) (by decide +kernel)
set_option maxRecDepth 20000 in
theorem gX1_trace_X1_firstClockwise : GoodIn wsX1_trace (wsV RX1 58 RX1 yX1_firstClockwise wsX1_firstClockwise) := goodIn_app (goodIn_of _ (by decide +kernel)) ggX1_trace_X1_firstClockwise
set_option maxRecDepth 20000 in
theorem ggX1_trace_X1_joinPieces : GoodIn wsX1_trace wsX1_joinPieces := goodIn_r _ [38, 39, 2, 3, 9, 40, 41, 42, 7, 43, 44, 45, 46, 47, 48, 49, 50, 77, 78, 79, 80, 81, 82, 83, 84, 85, 86, 87, 88, 89, 90, 91] (by decide +kernel) (by decide +kernel)
set_option maxRecDepth 20000 in
theorem gX1_trace_X1_joinPieces : GoodIn wsX1_trace (wsV RX1 62 RX1 yX1_joinPieces wsX1_joinPieces) := goodIn_app (goodIn_of _ (by decide +kernel)) ggX1_trace_X1_joinPieces
set_option maxRecDepth 20000 in
theorem ggX1_trace_X1_numberPieces : GoodIn wsX1_trace wsX1_numberPieces := goodIn_r _ [54, 55, 2, 3, 39, 56, 77, 78, 79, 80, 81, 82, 83, 84, 85, 86, 87, 88, 89, 90, 91] (by decide +kernel) (by decide +kernel)
set_option maxRecDepth 20000 in
theorem gX1_trace_X1_numberPieces : GoodIn wsX1_trace (wsV RX1 65 RX1 yX1_numberPieces wsX1_numberPieces) := goodIn_app (goodIn_of _ (by decide +kernel)) ggX1_trace_X1_numberPieces
set_option maxRecDepth 20000 in
theorem ggX1_trace_X1_walkRounds : GoodIn wsX1_trace wsX1_walkRounds := goodIn_r _ [60, 61, 62, 2, 3, 63, 64, 65, 66, 67, 68, 69, 7, 70, 71, 72, 1, 73, 74, 75, 15, 76, 18, 19, 77, 78, 79, 80, 81, 82, 83, 84, 85, 86, 87, 88, 89, 90, 91] (by decide +kernel) (by decide +kernel)
set_option maxRecDepth 20000 in
theorem gX1_trace_X1_walkRounds : GoodIn wsX1_trace (wsV RX1 68 RX1 yX1_walkRounds wsX1_walkRounds) := goodIn_app (goodIn_of _ (by decide +kernel)) ggX1_trace_X1_walkRounds
theorem dX1_trace_0 : decode cX1_trace 0 = .ok (.aload_n 0, 1) := by decide +kernel
theorem dX1_trace_1 : decode cX1_trace 1 = .ok (.invokevirtual 51, 3) := by decide +kernel
theorem dX1_trace_4 : decode cX1_trace 4 = .ok (.iconst 0, 1) := by decide +kernel
theorem dX1_trace_5 : decode cX1_trace 5 = .ok (.istore_n 1, 1) := by decide +kernel
theorem dX1_trace_6 : decode cX1_trace 6 = .ok (.iload_n 1, 1) := by decide +kernel
theorem dX1_trace_7 : decode cX1_trace 7 = .ok (.bipush 120, 2) := by decide +kernel
theorem dX1_trace_9 : decode cX1_trace 9 = .ok (.if_icmp .ge 40, 3) := by decide +kernel
theorem dX1_trace_12 : decode cX1_trace 12 = .ok (.aload_n 0, 1) := by decide +kernel
theorem dX1_trace_13 : decode cX1_trace 13 = .ok (.getfield 22, 3) := by decide +kernel
theorem dX1_trace_16 : decode cX1_trace 16 = .ok (.iload_n 1, 1) := by decide +kernel
theorem dX1_trace_17 : decode cX1_trace 17 = .ok (.aload_n 0, 1) := by decide +kernel
theorem dX1_trace_18 : decode cX1_trace 18 = .ok (.getfield 12, 3) := by decide +kernel
theorem dX1_trace_21 : decode cX1_trace 21 = .ok (.getfield 54, 3) := by decide +kernel
theorem dX1_trace_24 : decode cX1_trace 24 = .ok (.iload_n 1, 1) := by decide +kernel
theorem dX1_trace_25 : decode cX1_trace 25 = .ok (.iconst 1, 1) := by decide +kernel
theorem dX1_trace_26 : decode cX1_trace 26 = .ok (.ishr, 1) := by decide +kernel
theorem dX1_trace_27 : decode cX1_trace 27 = .ok (.baload, 1) := by decide +kernel
theorem dX1_trace_28 : decode cX1_trace 28 = .ok (.ifCond .eq 13, 3) := by decide +kernel
theorem dX1_trace_31 : decode cX1_trace 31 = .ok (.aload_n 0, 1) := by decide +kernel
theorem dX1_trace_32 : decode cX1_trace 32 = .ok (.iload_n 1, 1) := by decide +kernel
theorem dX1_trace_33 : decode cX1_trace 33 = .ok (.iconst 1, 1) := by decide +kernel
theorem dX1_trace_34 : decode cX1_trace 34 = .ok (.ixor, 1) := by decide +kernel
theorem dX1_trace_35 : decode cX1_trace 35 = .ok (.invokevirtual 58, 3) := by decide +kernel
theorem dX1_trace_38 : decode cX1_trace 38 = .ok (.goto 4, 3) := by decide +kernel
theorem dX1_trace_41 : decode cX1_trace 41 = .ok (.iconst (-1), 1) := by decide +kernel
theorem dX1_trace_42 : decode cX1_trace 42 = .ok (.iastore, 1) := by decide +kernel
theorem dX1_trace_43 : decode cX1_trace 43 = .ok (.iinc 1 1, 3) := by decide +kernel
theorem dX1_trace_46 : decode cX1_trace 46 = .ok (.goto (-40), 3) := by decide +kernel
theorem dX1_trace_49 : decode cX1_trace 49 = .ok (.aload_n 0, 1) := by decide +kernel
theorem dX1_trace_50 : decode cX1_trace 50 = .ok (.invokevirtual 62, 3) := by decide +kernel
theorem dX1_trace_53 : decode cX1_trace 53 = .ok (.aload_n 0, 1) := by decide +kernel
theorem dX1_trace_54 : decode cX1_trace 54 = .ok (.invokevirtual 65, 3) := by decide +kernel
theorem dX1_trace_57 : decode cX1_trace 57 = .ok (.aload_n 0, 1) := by decide +kernel
theorem dX1_trace_58 : decode cX1_trace 58 = .ok (.invokevirtual 68, 3) := by decide +kernel
theorem dX1_trace_61 : decode cX1_trace 61 = .ok (.return_, 1) := by decide +kernel
set_option maxRecDepth 20000 in
theorem ggX1_findCorners_X2_leastHalfAt : GoodIn wsX1_findCorners wsX2_leastHalfAt := goodIn_r _ [10, 11, 12, 13, 25, 26, 27, 28] (by decide +kernel) (by decide +kernel)
set_option maxRecDepth 20000 in
theorem gX1_findCorners_X2_leastHalfAt : GoodIn wsX1_findCorners (wsV RX1 77 RX2 yX2_leastHalfAt wsX2_leastHalfAt) := goodIn_app (goodIn_of _ (by decide +kernel)) ggX1_findCorners_X2_leastHalfAt
theorem dX1_findCorners_0 : decode cX1_findCorners 0 = .ok (.iconst 0, 1) := by decide +kernel
theorem dX1_findCorners_1 : decode cX1_findCorners 1 = .ok (.istore_n 1, 1) := by decide +kernel
theorem dX1_findCorners_2 : decode cX1_findCorners 2 = .ok (.iload_n 1, 1) := by decide +kernel
theorem dX1_findCorners_3 : decode cX1_findCorners 3 = .ok (.bipush 120, 2) := by decide +kernel
theorem dX1_findCorners_5 : decode cX1_findCorners 5 = .ok (.if_icmp .ge 58, 3) := by decide +kernel
theorem dX1_findCorners_8 : decode cX1_findCorners 8 = .ok (.aload_n 0, 1) := by decide +kernel
theorem dX1_findCorners_9 : decode cX1_findCorners 9 = .ok (.getfield 18, 3) := by decide +kernel
theorem dX1_findCorners_12 : decode cX1_findCorners 12 = .ok (.iload_n 1, 1) := by decide +kernel
theorem dX1_findCorners_13 : decode cX1_findCorners 13 = .ok (.aload_n 0, 1) := by decide +kernel
theorem dX1_findCorners_14 : decode cX1_findCorners 14 = .ok (.getfield 12, 3) := by decide +kernel
theorem dX1_findCorners_17 : decode cX1_findCorners 17 = .ok (.getfield 54, 3) := by decide +kernel
theorem dX1_findCorners_20 : decode cX1_findCorners 20 = .ok (.iload_n 1, 1) := by decide +kernel
theorem dX1_findCorners_21 : decode cX1_findCorners 21 = .ok (.iconst 1, 1) := by decide +kernel
theorem dX1_findCorners_22 : decode cX1_findCorners 22 = .ok (.ishr, 1) := by decide +kernel
theorem dX1_findCorners_23 : decode cX1_findCorners 23 = .ok (.baload, 1) := by decide +kernel
theorem dX1_findCorners_24 : decode cX1_findCorners 24 = .ok (.ifCond .eq 31, 3) := by decide +kernel
theorem dX1_findCorners_27 : decode cX1_findCorners 27 = .ok (.aload_n 0, 1) := by decide +kernel
theorem dX1_findCorners_28 : decode cX1_findCorners 28 = .ok (.getfield 12, 3) := by decide +kernel
theorem dX1_findCorners_31 : decode cX1_findCorners 31 = .ok (.aload_n 0, 1) := by decide +kernel
theorem dX1_findCorners_32 : decode cX1_findCorners 32 = .ok (.getfield 12, 3) := by decide +kernel
theorem dX1_findCorners_35 : decode cX1_findCorners 35 = .ok (.getfield 71, 3) := by decide +kernel
theorem dX1_findCorners_38 : decode cX1_findCorners 38 = .ok (.iload_n 1, 1) := by decide +kernel
theorem dX1_findCorners_39 : decode cX1_findCorners 39 = .ok (.iaload, 1) := by decide +kernel
theorem dX1_findCorners_40 : decode cX1_findCorners 40 = .ok (.aload_n 0, 1) := by decide +kernel
theorem dX1_findCorners_41 : decode cX1_findCorners 41 = .ok (.getfield 12, 3) := by decide +kernel
theorem dX1_findCorners_44 : decode cX1_findCorners 44 = .ok (.getfield 74, 3) := by decide +kernel
theorem dX1_findCorners_47 : decode cX1_findCorners 47 = .ok (.iload_n 1, 1) := by decide +kernel
theorem dX1_findCorners_48 : decode cX1_findCorners 48 = .ok (.iaload, 1) := by decide +kernel
theorem dX1_findCorners_49 : decode cX1_findCorners 49 = .ok (.invokevirtual 77, 3) := by decide +kernel
theorem dX1_findCorners_52 : decode cX1_findCorners 52 = .ok (.goto 4, 3) := by decide +kernel
theorem dX1_findCorners_55 : decode cX1_findCorners 55 = .ok (.iconst (-1), 1) := by decide +kernel
theorem dX1_findCorners_56 : decode cX1_findCorners 56 = .ok (.iastore, 1) := by decide +kernel
theorem dX1_findCorners_57 : decode cX1_findCorners 57 = .ok (.iinc 1 1, 3) := by decide +kernel
theorem dX1_findCorners_60 : decode cX1_findCorners 60 = .ok (.goto (-58), 3) := by decide +kernel
theorem dX1_findCorners_63 : decode cX1_findCorners 63 = .ok (.return_, 1) := by decide +kernel
theorem dX1_corners_0 : decode cX1_corners 0 = .ok (.iconst 0, 1) := by decide +kernel
theorem dX1_corners_1 : decode cX1_corners 1 = .ok (.istore_n 1, 1) := by decide +kernel
theorem dX1_corners_2 : decode cX1_corners 2 = .ok (.iconst 0, 1) := by decide +kernel
theorem dX1_corners_3 : decode cX1_corners 3 = .ok (.istore_n 2, 1) := by decide +kernel
theorem dX1_corners_4 : decode cX1_corners 4 = .ok (.iload_n 2, 1) := by decide +kernel
theorem dX1_corners_5 : decode cX1_corners 5 = .ok (.bipush 120, 2) := by decide +kernel
theorem dX1_corners_7 : decode cX1_corners 7 = .ok (.if_icmp .ge 36, 3) := by decide +kernel
theorem dX1_corners_10 : decode cX1_corners 10 = .ok (.aload_n 0, 1) := by decide +kernel
theorem dX1_corners_11 : decode cX1_corners 11 = .ok (.getfield 12, 3) := by decide +kernel
theorem dX1_corners_14 : decode cX1_corners 14 = .ok (.getfield 54, 3) := by decide +kernel
theorem dX1_corners_17 : decode cX1_corners 17 = .ok (.iload_n 2, 1) := by decide +kernel
theorem dX1_corners_18 : decode cX1_corners 18 = .ok (.iconst 1, 1) := by decide +kernel
theorem dX1_corners_19 : decode cX1_corners 19 = .ok (.ishr, 1) := by decide +kernel
theorem dX1_corners_20 : decode cX1_corners 20 = .ok (.baload, 1) := by decide +kernel
theorem dX1_corners_21 : decode cX1_corners 21 = .ok (.ifCond .eq 16, 3) := by decide +kernel
theorem dX1_corners_24 : decode cX1_corners 24 = .ok (.aload_n 0, 1) := by decide +kernel
theorem dX1_corners_25 : decode cX1_corners 25 = .ok (.getfield 18, 3) := by decide +kernel
theorem dX1_corners_28 : decode cX1_corners 28 = .ok (.iload_n 2, 1) := by decide +kernel
theorem dX1_corners_29 : decode cX1_corners 29 = .ok (.iaload, 1) := by decide +kernel
theorem dX1_corners_30 : decode cX1_corners 30 = .ok (.iload_n 2, 1) := by decide +kernel
theorem dX1_corners_31 : decode cX1_corners 31 = .ok (.if_icmp .ne 6, 3) := by decide +kernel
theorem dX1_corners_34 : decode cX1_corners 34 = .ok (.iinc 1 1, 3) := by decide +kernel
theorem dX1_corners_37 : decode cX1_corners 37 = .ok (.iinc 2 1, 3) := by decide +kernel
theorem dX1_corners_40 : decode cX1_corners 40 = .ok (.goto (-36), 3) := by decide +kernel
theorem dX1_corners_43 : decode cX1_corners 43 = .ok (.iload_n 1, 1) := by decide +kernel
theorem dX1_corners_44 : decode cX1_corners 44 = .ok (.ireturn, 1) := by decide +kernel
set_option maxRecDepth 20000 in
theorem ggX1_firstClockwise_X2_sooner : GoodIn wsX1_firstClockwise wsX2_sooner := goodIn_r _ [7, 8, 9, 10, 6, 11, 12, 13, 14, 15, 16, 28, 29, 30, 31] (by decide +kernel) (by decide +kernel)
set_option maxRecDepth 20000 in
theorem gX1_firstClockwise_X2_sooner : GoodIn wsX1_firstClockwise (wsV RX1 81 RX2 yX2_sooner wsX2_sooner) := goodIn_app (goodIn_of _ (by decide +kernel)) ggX1_firstClockwise_X2_sooner
theorem dX1_firstClockwise_0 : decode cX1_firstClockwise 0 = .ok (.iload_n 1, 1) := by decide +kernel
theorem dX1_firstClockwise_1 : decode cX1_firstClockwise 1 = .ok (.istore_n 2, 1) := by decide +kernel
theorem dX1_firstClockwise_2 : decode cX1_firstClockwise 2 = .ok (.iconst 0, 1) := by decide +kernel
theorem dX1_firstClockwise_3 : decode cX1_firstClockwise 3 = .ok (.istore_n 3, 1) := by decide +kernel
theorem dX1_firstClockwise_4 : decode cX1_firstClockwise 4 = .ok (.iload_n 3, 1) := by decide +kernel
theorem dX1_firstClockwise_5 : decode cX1_firstClockwise 5 = .ok (.bipush 120, 2) := by decide +kernel
theorem dX1_firstClockwise_7 : decode cX1_firstClockwise 7 = .ok (.if_icmp .ge 61, 3) := by decide +kernel
theorem dX1_firstClockwise_10 : decode cX1_firstClockwise 10 = .ok (.aload_n 0, 1) := by decide +kernel
theorem dX1_firstClockwise_11 : decode cX1_firstClockwise 11 = .ok (.getfield 18, 3) := by decide +kernel
theorem dX1_firstClockwise_14 : decode cX1_firstClockwise 14 = .ok (.iload_n 3, 1) := by decide +kernel
theorem dX1_firstClockwise_15 : decode cX1_firstClockwise 15 = .ok (.iaload, 1) := by decide +kernel
theorem dX1_firstClockwise_16 : decode cX1_firstClockwise 16 = .ok (.aload_n 0, 1) := by decide +kernel
theorem dX1_firstClockwise_17 : decode cX1_firstClockwise 17 = .ok (.getfield 18, 3) := by decide +kernel
theorem dX1_firstClockwise_20 : decode cX1_firstClockwise 20 = .ok (.iload_n 1, 1) := by decide +kernel
theorem dX1_firstClockwise_21 : decode cX1_firstClockwise 21 = .ok (.iaload, 1) := by decide +kernel
theorem dX1_firstClockwise_22 : decode cX1_firstClockwise 22 = .ok (.if_icmp .ne 12, 3) := by decide +kernel
theorem dX1_firstClockwise_25 : decode cX1_firstClockwise 25 = .ok (.iload_n 3, 1) := by decide +kernel
theorem dX1_firstClockwise_26 : decode cX1_firstClockwise 26 = .ok (.iload_n 1, 1) := by decide +kernel
theorem dX1_firstClockwise_27 : decode cX1_firstClockwise 27 = .ok (.if_icmp .eq 7, 3) := by decide +kernel
theorem dX1_firstClockwise_30 : decode cX1_firstClockwise 30 = .ok (.iconst 1, 1) := by decide +kernel
theorem dX1_firstClockwise_31 : decode cX1_firstClockwise 31 = .ok (.goto 4, 3) := by decide +kernel
theorem dX1_firstClockwise_34 : decode cX1_firstClockwise 34 = .ok (.iconst 0, 1) := by decide +kernel
theorem dX1_firstClockwise_35 : decode cX1_firstClockwise 35 = .ok (.istore 4, 2) := by decide +kernel
theorem dX1_firstClockwise_37 : decode cX1_firstClockwise 37 = .ok (.iload 4, 2) := by decide +kernel
theorem dX1_firstClockwise_39 : decode cX1_firstClockwise 39 = .ok (.ifCond .eq 23, 3) := by decide +kernel
theorem dX1_firstClockwise_42 : decode cX1_firstClockwise 42 = .ok (.iload_n 2, 1) := by decide +kernel
theorem dX1_firstClockwise_43 : decode cX1_firstClockwise 43 = .ok (.iload_n 1, 1) := by decide +kernel
theorem dX1_firstClockwise_44 : decode cX1_firstClockwise 44 = .ok (.if_icmp .eq 16, 3) := by decide +kernel
theorem dX1_firstClockwise_47 : decode cX1_firstClockwise 47 = .ok (.aload_n 0, 1) := by decide +kernel
theorem dX1_firstClockwise_48 : decode cX1_firstClockwise 48 = .ok (.getfield 12, 3) := by decide +kernel
theorem dX1_firstClockwise_51 : decode cX1_firstClockwise 51 = .ok (.iload_n 1, 1) := by decide +kernel
theorem dX1_firstClockwise_52 : decode cX1_firstClockwise 52 = .ok (.iload_n 3, 1) := by decide +kernel
theorem dX1_firstClockwise_53 : decode cX1_firstClockwise 53 = .ok (.iload_n 2, 1) := by decide +kernel
theorem dX1_firstClockwise_54 : decode cX1_firstClockwise 54 = .ok (.invokevirtual 81, 3) := by decide +kernel
theorem dX1_firstClockwise_57 : decode cX1_firstClockwise 57 = .ok (.ifCond .eq 5, 3) := by decide +kernel
theorem dX1_firstClockwise_60 : decode cX1_firstClockwise 60 = .ok (.iload_n 3, 1) := by decide +kernel
theorem dX1_firstClockwise_61 : decode cX1_firstClockwise 61 = .ok (.istore_n 2, 1) := by decide +kernel
theorem dX1_firstClockwise_62 : decode cX1_firstClockwise 62 = .ok (.iinc 3 1, 3) := by decide +kernel
theorem dX1_firstClockwise_65 : decode cX1_firstClockwise 65 = .ok (.goto (-61), 3) := by decide +kernel
theorem dX1_firstClockwise_68 : decode cX1_firstClockwise 68 = .ok (.iload_n 2, 1) := by decide +kernel
theorem dX1_firstClockwise_69 : decode cX1_firstClockwise 69 = .ok (.ireturn, 1) := by decide +kernel
set_option maxRecDepth 20000 in
theorem ggX1_joinPieces_X1_joinRoots : GoodIn wsX1_joinPieces wsX1_joinRoots := goodIn_r _ [9, 1, 10, 11, 12, 13, 14, 15, 16, 17, 18, 19, 20, 21, 22, 23, 24, 25, 26, 27] (by decide +kernel) (by decide +kernel)
set_option maxRecDepth 20000 in
theorem gX1_joinPieces_X1_joinRoots : GoodIn wsX1_joinPieces (wsV RX1 85 RX1 yX1_joinRoots wsX1_joinRoots) := goodIn_app (goodIn_of _ (by decide +kernel)) ggX1_joinPieces_X1_joinRoots
theorem dX1_joinPieces_0 : decode cX1_joinPieces 0 = .ok (.iconst 0, 1) := by decide +kernel
theorem dX1_joinPieces_1 : decode cX1_joinPieces 1 = .ok (.istore_n 1, 1) := by decide +kernel
theorem dX1_joinPieces_2 : decode cX1_joinPieces 2 = .ok (.iload_n 1, 1) := by decide +kernel
theorem dX1_joinPieces_3 : decode cX1_joinPieces 3 = .ok (.bipush 60, 2) := by decide +kernel
theorem dX1_joinPieces_5 : decode cX1_joinPieces 5 = .ok (.if_icmp .ge 16, 3) := by decide +kernel
theorem dX1_joinPieces_8 : decode cX1_joinPieces 8 = .ok (.aload_n 0, 1) := by decide +kernel
theorem dX1_joinPieces_9 : decode cX1_joinPieces 9 = .ok (.getfield 25, 3) := by decide +kernel
theorem dX1_joinPieces_12 : decode cX1_joinPieces 12 = .ok (.iload_n 1, 1) := by decide +kernel
theorem dX1_joinPieces_13 : decode cX1_joinPieces 13 = .ok (.iload_n 1, 1) := by decide +kernel
theorem dX1_joinPieces_14 : decode cX1_joinPieces 14 = .ok (.iastore, 1) := by decide +kernel
theorem dX1_joinPieces_15 : decode cX1_joinPieces 15 = .ok (.iinc 1 1, 3) := by decide +kernel
theorem dX1_joinPieces_18 : decode cX1_joinPieces 18 = .ok (.goto (-16), 3) := by decide +kernel
theorem dX1_joinPieces_21 : decode cX1_joinPieces 21 = .ok (.iconst 0, 1) := by decide +kernel
theorem dX1_joinPieces_22 : decode cX1_joinPieces 22 = .ok (.istore_n 1, 1) := by decide +kernel
theorem dX1_joinPieces_23 : decode cX1_joinPieces 23 = .ok (.iload_n 1, 1) := by decide +kernel
theorem dX1_joinPieces_24 : decode cX1_joinPieces 24 = .ok (.bipush 120, 2) := by decide +kernel
theorem dX1_joinPieces_26 : decode cX1_joinPieces 26 = .ok (.if_icmp .ge 48, 3) := by decide +kernel
theorem dX1_joinPieces_29 : decode cX1_joinPieces 29 = .ok (.aload_n 0, 1) := by decide +kernel
theorem dX1_joinPieces_30 : decode cX1_joinPieces 30 = .ok (.getfield 12, 3) := by decide +kernel
theorem dX1_joinPieces_33 : decode cX1_joinPieces 33 = .ok (.getfield 54, 3) := by decide +kernel
theorem dX1_joinPieces_36 : decode cX1_joinPieces 36 = .ok (.iload_n 1, 1) := by decide +kernel
theorem dX1_joinPieces_37 : decode cX1_joinPieces 37 = .ok (.iconst 1, 1) := by decide +kernel
theorem dX1_joinPieces_38 : decode cX1_joinPieces 38 = .ok (.ishr, 1) := by decide +kernel
theorem dX1_joinPieces_39 : decode cX1_joinPieces 39 = .ok (.baload, 1) := by decide +kernel
theorem dX1_joinPieces_40 : decode cX1_joinPieces 40 = .ok (.ifCond .eq 28, 3) := by decide +kernel
theorem dX1_joinPieces_43 : decode cX1_joinPieces 43 = .ok (.aload_n 0, 1) := by decide +kernel
theorem dX1_joinPieces_44 : decode cX1_joinPieces 44 = .ok (.aload_n 0, 1) := by decide +kernel
theorem dX1_joinPieces_45 : decode cX1_joinPieces 45 = .ok (.getfield 25, 3) := by decide +kernel
theorem dX1_joinPieces_48 : decode cX1_joinPieces 48 = .ok (.iload_n 1, 1) := by decide +kernel
theorem dX1_joinPieces_49 : decode cX1_joinPieces 49 = .ok (.iconst 1, 1) := by decide +kernel
theorem dX1_joinPieces_50 : decode cX1_joinPieces 50 = .ok (.ishr, 1) := by decide +kernel
theorem dX1_joinPieces_51 : decode cX1_joinPieces 51 = .ok (.iaload, 1) := by decide +kernel
theorem dX1_joinPieces_52 : decode cX1_joinPieces 52 = .ok (.aload_n 0, 1) := by decide +kernel
theorem dX1_joinPieces_53 : decode cX1_joinPieces 53 = .ok (.getfield 25, 3) := by decide +kernel
theorem dX1_joinPieces_56 : decode cX1_joinPieces 56 = .ok (.aload_n 0, 1) := by decide +kernel
theorem dX1_joinPieces_57 : decode cX1_joinPieces 57 = .ok (.getfield 18, 3) := by decide +kernel
theorem dX1_joinPieces_60 : decode cX1_joinPieces 60 = .ok (.iload_n 1, 1) := by decide +kernel
theorem dX1_joinPieces_61 : decode cX1_joinPieces 61 = .ok (.iaload, 1) := by decide +kernel
theorem dX1_joinPieces_62 : decode cX1_joinPieces 62 = .ok (.iconst 1, 1) := by decide +kernel
theorem dX1_joinPieces_63 : decode cX1_joinPieces 63 = .ok (.ishr, 1) := by decide +kernel
theorem dX1_joinPieces_64 : decode cX1_joinPieces 64 = .ok (.iaload, 1) := by decide +kernel
theorem dX1_joinPieces_65 : decode cX1_joinPieces 65 = .ok (.invokevirtual 85, 3) := by decide +kernel
theorem dX1_joinPieces_68 : decode cX1_joinPieces 68 = .ok (.iinc 1 1, 3) := by decide +kernel
theorem dX1_joinPieces_71 : decode cX1_joinPieces 71 = .ok (.goto (-48), 3) := by decide +kernel
theorem dX1_joinPieces_74 : decode cX1_joinPieces 74 = .ok (.return_, 1) := by decide +kernel
theorem dX1_joinRoots_0 : decode cX1_joinRoots 0 = .ok (.iload_n 1, 1) := by decide +kernel
theorem dX1_joinRoots_1 : decode cX1_joinRoots 1 = .ok (.iload_n 2, 1) := by decide +kernel
theorem dX1_joinRoots_2 : decode cX1_joinRoots 2 = .ok (.if_icmp .ne 4, 3) := by decide +kernel
theorem dX1_joinRoots_5 : decode cX1_joinRoots 5 = .ok (.return_, 1) := by decide +kernel
theorem dX1_joinRoots_6 : decode cX1_joinRoots 6 = .ok (.iconst 0, 1) := by decide +kernel
theorem dX1_joinRoots_7 : decode cX1_joinRoots 7 = .ok (.istore_n 3, 1) := by decide +kernel
theorem dX1_joinRoots_8 : decode cX1_joinRoots 8 = .ok (.iload_n 3, 1) := by decide +kernel
theorem dX1_joinRoots_9 : decode cX1_joinRoots 9 = .ok (.bipush 60, 2) := by decide +kernel
theorem dX1_joinRoots_11 : decode cX1_joinRoots 11 = .ok (.if_icmp .ge 34, 3) := by decide +kernel
theorem dX1_joinRoots_14 : decode cX1_joinRoots 14 = .ok (.aload_n 0, 1) := by decide +kernel
theorem dX1_joinRoots_15 : decode cX1_joinRoots 15 = .ok (.getfield 25, 3) := by decide +kernel
theorem dX1_joinRoots_18 : decode cX1_joinRoots 18 = .ok (.iload_n 3, 1) := by decide +kernel
theorem dX1_joinRoots_19 : decode cX1_joinRoots 19 = .ok (.iaload, 1) := by decide +kernel
theorem dX1_joinRoots_20 : decode cX1_joinRoots 20 = .ok (.iload_n 1, 1) := by decide +kernel
theorem dX1_joinRoots_21 : decode cX1_joinRoots 21 = .ok (.iload_n 2, 1) := by decide +kernel
theorem dX1_joinRoots_22 : decode cX1_joinRoots 22 = .ok (.invokestatic 89, 3) := by decide +kernel
theorem dX1_joinRoots_25 : decode cX1_joinRoots 25 = .ok (.if_icmp .ne 14, 3) := by decide +kernel
theorem dX1_joinRoots_28 : decode cX1_joinRoots 28 = .ok (.aload_n 0, 1) := by decide +kernel
theorem dX1_joinRoots_29 : decode cX1_joinRoots 29 = .ok (.getfield 25, 3) := by decide +kernel
theorem dX1_joinRoots_32 : decode cX1_joinRoots 32 = .ok (.iload_n 3, 1) := by decide +kernel
theorem dX1_joinRoots_33 : decode cX1_joinRoots 33 = .ok (.iload_n 1, 1) := by decide +kernel
theorem dX1_joinRoots_34 : decode cX1_joinRoots 34 = .ok (.iload_n 2, 1) := by decide +kernel
theorem dX1_joinRoots_35 : decode cX1_joinRoots 35 = .ok (.invokestatic 94, 3) := by decide +kernel
theorem dX1_joinRoots_38 : decode cX1_joinRoots 38 = .ok (.iastore, 1) := by decide +kernel
theorem dX1_joinRoots_39 : decode cX1_joinRoots 39 = .ok (.iinc 3 1, 3) := by decide +kernel
theorem dX1_joinRoots_42 : decode cX1_joinRoots 42 = .ok (.goto (-34), 3) := by decide +kernel
theorem dX1_joinRoots_45 : decode cX1_joinRoots 45 = .ok (.return_, 1) := by decide +kernel
theorem dX1_numberPieces_0 : decode cX1_numberPieces 0 = .ok (.aload_n 0, 1) := by decide +kernel
theorem dX1_numberPieces_1 : decode cX1_numberPieces 1 = .ok (.iconst 0, 1) := by decide +kernel
theorem dX1_numberPieces_2 : decode cX1_numberPieces 2 = .ok (.putfield 31, 3) := by decide +kernel
theorem dX1_numberPieces_5 : decode cX1_numberPieces 5 = .ok (.iconst 0, 1) := by decide +kernel
theorem dX1_numberPieces_6 : decode cX1_numberPieces 6 = .ok (.istore_n 1, 1) := by decide +kernel
theorem dX1_numberPieces_7 : decode cX1_numberPieces 7 = .ok (.iload_n 1, 1) := by decide +kernel
theorem dX1_numberPieces_8 : decode cX1_numberPieces 8 = .ok (.bipush 60, 2) := by decide +kernel
theorem dX1_numberPieces_10 : decode cX1_numberPieces 10 = .ok (.if_icmp .ge 87, 3) := by decide +kernel
theorem dX1_numberPieces_13 : decode cX1_numberPieces 13 = .ok (.aload_n 0, 1) := by decide +kernel
theorem dX1_numberPieces_14 : decode cX1_numberPieces 14 = .ok (.getfield 12, 3) := by decide +kernel
theorem dX1_numberPieces_17 : decode cX1_numberPieces 17 = .ok (.getfield 54, 3) := by decide +kernel
theorem dX1_numberPieces_20 : decode cX1_numberPieces 20 = .ok (.iload_n 1, 1) := by decide +kernel
theorem dX1_numberPieces_21 : decode cX1_numberPieces 21 = .ok (.baload, 1) := by decide +kernel
theorem dX1_numberPieces_22 : decode cX1_numberPieces 22 = .ok (.ifCond .eq 36, 3) := by decide +kernel
theorem dX1_numberPieces_25 : decode cX1_numberPieces 25 = .ok (.aload_n 0, 1) := by decide +kernel
theorem dX1_numberPieces_26 : decode cX1_numberPieces 26 = .ok (.getfield 25, 3) := by decide +kernel
theorem dX1_numberPieces_29 : decode cX1_numberPieces 29 = .ok (.iload_n 1, 1) := by decide +kernel
theorem dX1_numberPieces_30 : decode cX1_numberPieces 30 = .ok (.iaload, 1) := by decide +kernel
theorem dX1_numberPieces_31 : decode cX1_numberPieces 31 = .ok (.iload_n 1, 1) := by decide +kernel
theorem dX1_numberPieces_32 : decode cX1_numberPieces 32 = .ok (.if_icmp .ne 26, 3) := by decide +kernel
theorem dX1_numberPieces_35 : decode cX1_numberPieces 35 = .ok (.aload_n 0, 1) := by decide +kernel
theorem dX1_numberPieces_36 : decode cX1_numberPieces 36 = .ok (.getfield 28, 3) := by decide +kernel
theorem dX1_numberPieces_39 : decode cX1_numberPieces 39 = .ok (.iload_n 1, 1) := by decide +kernel
theorem dX1_numberPieces_40 : decode cX1_numberPieces 40 = .ok (.aload_n 0, 1) := by decide +kernel
theorem dX1_numberPieces_41 : decode cX1_numberPieces 41 = .ok (.getfield 31, 3) := by decide +kernel
theorem dX1_numberPieces_44 : decode cX1_numberPieces 44 = .ok (.iastore, 1) := by decide +kernel
theorem dX1_numberPieces_45 : decode cX1_numberPieces 45 = .ok (.aload_n 0, 1) := by decide +kernel
theorem dX1_numberPieces_46 : decode cX1_numberPieces 46 = .ok (.dup, 1) := by decide +kernel
theorem dX1_numberPieces_47 : decode cX1_numberPieces 47 = .ok (.getfield 31, 3) := by decide +kernel
theorem dX1_numberPieces_50 : decode cX1_numberPieces 50 = .ok (.iconst 1, 1) := by decide +kernel
theorem dX1_numberPieces_51 : decode cX1_numberPieces 51 = .ok (.iadd, 1) := by decide +kernel
theorem dX1_numberPieces_52 : decode cX1_numberPieces 52 = .ok (.putfield 31, 3) := by decide +kernel
theorem dX1_numberPieces_55 : decode cX1_numberPieces 55 = .ok (.goto 36, 3) := by decide +kernel
theorem dX1_numberPieces_58 : decode cX1_numberPieces 58 = .ok (.aload_n 0, 1) := by decide +kernel
theorem dX1_numberPieces_59 : decode cX1_numberPieces 59 = .ok (.getfield 28, 3) := by decide +kernel
theorem dX1_numberPieces_62 : decode cX1_numberPieces 62 = .ok (.iload_n 1, 1) := by decide +kernel
theorem dX1_numberPieces_63 : decode cX1_numberPieces 63 = .ok (.aload_n 0, 1) := by decide +kernel
theorem dX1_numberPieces_64 : decode cX1_numberPieces 64 = .ok (.getfield 12, 3) := by decide +kernel
theorem dX1_numberPieces_67 : decode cX1_numberPieces 67 = .ok (.getfield 54, 3) := by decide +kernel
theorem dX1_numberPieces_70 : decode cX1_numberPieces 70 = .ok (.iload_n 1, 1) := by decide +kernel
theorem dX1_numberPieces_71 : decode cX1_numberPieces 71 = .ok (.baload, 1) := by decide +kernel
theorem dX1_numberPieces_72 : decode cX1_numberPieces 72 = .ok (.ifCond .eq 17, 3) := by decide +kernel
theorem dX1_numberPieces_75 : decode cX1_numberPieces 75 = .ok (.aload_n 0, 1) := by decide +kernel
theorem dX1_numberPieces_76 : decode cX1_numberPieces 76 = .ok (.getfield 28, 3) := by decide +kernel
theorem dX1_numberPieces_79 : decode cX1_numberPieces 79 = .ok (.aload_n 0, 1) := by decide +kernel
theorem dX1_numberPieces_80 : decode cX1_numberPieces 80 = .ok (.getfield 25, 3) := by decide +kernel
theorem dX1_numberPieces_83 : decode cX1_numberPieces 83 = .ok (.iload_n 1, 1) := by decide +kernel
theorem dX1_numberPieces_84 : decode cX1_numberPieces 84 = .ok (.iaload, 1) := by decide +kernel
theorem dX1_numberPieces_85 : decode cX1_numberPieces 85 = .ok (.iaload, 1) := by decide +kernel
theorem dX1_numberPieces_86 : decode cX1_numberPieces 86 = .ok (.goto 4, 3) := by decide +kernel
theorem dX1_numberPieces_89 : decode cX1_numberPieces 89 = .ok (.iconst (-1), 1) := by decide +kernel
theorem dX1_numberPieces_90 : decode cX1_numberPieces 90 = .ok (.iastore, 1) := by decide +kernel
theorem dX1_numberPieces_91 : decode cX1_numberPieces 91 = .ok (.iinc 1 1, 3) := by decide +kernel
theorem dX1_numberPieces_94 : decode cX1_numberPieces 94 = .ok (.goto (-87), 3) := by decide +kernel
theorem dX1_numberPieces_97 : decode cX1_numberPieces 97 = .ok (.return_, 1) := by decide +kernel
set_option maxRecDepth 20000 in
theorem ggX1_walkRounds_J7_fill_53178 : GoodIn wsX1_walkRounds wsJ7_fill_53178 := goodIn_r _ [8] (by decide +kernel) (by decide +kernel)
set_option maxRecDepth 20000 in
theorem gX1_walkRounds_J7_fill_53178 : GoodIn wsX1_walkRounds (va_wsS RX1 97 yJ7_fill_53178 wsJ7_fill_53178) := goodIn_app (goodIn_of _ (by decide +kernel)) ggX1_walkRounds_J7_fill_53178
set_option maxRecDepth 20000 in
theorem ggX1_walkRounds_X1_walk : GoodIn wsX1_walkRounds wsX1_walk := goodIn_r _ [13, 14, 2, 15, 1, 3, 16, 17, 18, 19, 20, 21, 22, 23, 24, 25, 26, 27, 28, 29, 30, 31, 32, 33, 34, 35, 36, 37, 38] (by decide +kernel) (by decide +kernel)
set_option maxRecDepth 20000 in
theorem gX1_walkRounds_X1_walk : GoodIn wsX1_walkRounds (wsV RX1 103 RX1 yX1_walk wsX1_walk) := goodIn_app (goodIn_of _ (by decide +kernel)) ggX1_walkRounds_X1_walk
theorem dX1_walkRounds_0 : decode cX1_walkRounds 0 = .ok (.aload_n 0, 1) := by decide +kernel
theorem dX1_walkRounds_1 : decode cX1_walkRounds 1 = .ok (.getfield 35, 3) := by decide +kernel
theorem dX1_walkRounds_4 : decode cX1_walkRounds 4 = .ok (.iconst (-1), 1) := by decide +kernel
theorem dX1_walkRounds_5 : decode cX1_walkRounds 5 = .ok (.invokestatic 97, 3) := by decide +kernel
theorem dX1_walkRounds_8 : decode cX1_walkRounds 8 = .ok (.aload_n 0, 1) := by decide +kernel
theorem dX1_walkRounds_9 : decode cX1_walkRounds 9 = .ok (.iconst 0, 1) := by decide +kernel
theorem dX1_walkRounds_10 : decode cX1_walkRounds 10 = .ok (.putfield 48, 3) := by decide +kernel
theorem dX1_walkRounds_13 : decode cX1_walkRounds 13 = .ok (.iconst 0, 1) := by decide +kernel
theorem dX1_walkRounds_14 : decode cX1_walkRounds 14 = .ok (.istore_n 1, 1) := by decide +kernel
theorem dX1_walkRounds_15 : decode cX1_walkRounds 15 = .ok (.iload_n 1, 1) := by decide +kernel
theorem dX1_walkRounds_16 : decode cX1_walkRounds 16 = .ok (.bipush 120, 2) := by decide +kernel
theorem dX1_walkRounds_18 : decode cX1_walkRounds 18 = .ok (.if_icmp .ge 48, 3) := by decide +kernel
theorem dX1_walkRounds_21 : decode cX1_walkRounds 21 = .ok (.aload_n 0, 1) := by decide +kernel
theorem dX1_walkRounds_22 : decode cX1_walkRounds 22 = .ok (.getfield 12, 3) := by decide +kernel
theorem dX1_walkRounds_25 : decode cX1_walkRounds 25 = .ok (.getfield 54, 3) := by decide +kernel
theorem dX1_walkRounds_28 : decode cX1_walkRounds 28 = .ok (.iload_n 1, 1) := by decide +kernel
theorem dX1_walkRounds_29 : decode cX1_walkRounds 29 = .ok (.iconst 1, 1) := by decide +kernel
theorem dX1_walkRounds_30 : decode cX1_walkRounds 30 = .ok (.ishr, 1) := by decide +kernel
theorem dX1_walkRounds_31 : decode cX1_walkRounds 31 = .ok (.baload, 1) := by decide +kernel
theorem dX1_walkRounds_32 : decode cX1_walkRounds 32 = .ok (.ifCond .eq 28, 3) := by decide +kernel
theorem dX1_walkRounds_35 : decode cX1_walkRounds 35 = .ok (.aload_n 0, 1) := by decide +kernel
theorem dX1_walkRounds_36 : decode cX1_walkRounds 36 = .ok (.getfield 35, 3) := by decide +kernel
theorem dX1_walkRounds_39 : decode cX1_walkRounds 39 = .ok (.iload_n 1, 1) := by decide +kernel
theorem dX1_walkRounds_40 : decode cX1_walkRounds 40 = .ok (.iaload, 1) := by decide +kernel
theorem dX1_walkRounds_41 : decode cX1_walkRounds 41 = .ok (.iconst (-1), 1) := by decide +kernel
theorem dX1_walkRounds_42 : decode cX1_walkRounds 42 = .ok (.if_icmp .ne 18, 3) := by decide +kernel
theorem dX1_walkRounds_45 : decode cX1_walkRounds 45 = .ok (.aload_n 0, 1) := by decide +kernel
theorem dX1_walkRounds_46 : decode cX1_walkRounds 46 = .ok (.iload_n 1, 1) := by decide +kernel
theorem dX1_walkRounds_47 : decode cX1_walkRounds 47 = .ok (.invokevirtual 103, 3) := by decide +kernel
theorem dX1_walkRounds_50 : decode cX1_walkRounds 50 = .ok (.aload_n 0, 1) := by decide +kernel
theorem dX1_walkRounds_51 : decode cX1_walkRounds 51 = .ok (.dup, 1) := by decide +kernel
theorem dX1_walkRounds_52 : decode cX1_walkRounds 52 = .ok (.getfield 48, 3) := by decide +kernel
theorem dX1_walkRounds_55 : decode cX1_walkRounds 55 = .ok (.iconst 1, 1) := by decide +kernel
theorem dX1_walkRounds_56 : decode cX1_walkRounds 56 = .ok (.iadd, 1) := by decide +kernel
theorem dX1_walkRounds_57 : decode cX1_walkRounds 57 = .ok (.putfield 48, 3) := by decide +kernel
theorem dX1_walkRounds_60 : decode cX1_walkRounds 60 = .ok (.iinc 1 1, 3) := by decide +kernel
theorem dX1_walkRounds_63 : decode cX1_walkRounds 63 = .ok (.goto (-48), 3) := by decide +kernel
theorem dX1_walkRounds_66 : decode cX1_walkRounds 66 = .ok (.return_, 1) := by decide +kernel
set_option maxRecDepth 20000 in
theorem ggX1_walk_X2_sweep : GoodIn wsX1_walk wsX2_sweep := goodIn_r _ [11, 12, 13, 25, 26, 27, 28] (by decide +kernel) (by decide +kernel)
set_option maxRecDepth 20000 in
theorem gX1_walk_X2_sweep : GoodIn wsX1_walk (wsV RX1 107 RX2 yX2_sweep wsX2_sweep) := goodIn_app (goodIn_of _ (by decide +kernel)) ggX1_walk_X2_sweep
theorem dX1_walk_0 : decode cX1_walk 0 = .ok (.aload_n 0, 1) := by decide +kernel
theorem dX1_walk_1 : decode cX1_walk 1 = .ok (.getfield 38, 3) := by decide +kernel
theorem dX1_walk_4 : decode cX1_walk 4 = .ok (.aload_n 0, 1) := by decide +kernel
theorem dX1_walk_5 : decode cX1_walk 5 = .ok (.getfield 48, 3) := by decide +kernel
theorem dX1_walk_8 : decode cX1_walk 8 = .ok (.iload_n 1, 1) := by decide +kernel
theorem dX1_walk_9 : decode cX1_walk 9 = .ok (.iastore, 1) := by decide +kernel
theorem dX1_walk_10 : decode cX1_walk 10 = .ok (.aload_n 0, 1) := by decide +kernel
theorem dX1_walk_11 : decode cX1_walk 11 = .ok (.getfield 41, 3) := by decide +kernel
theorem dX1_walk_14 : decode cX1_walk 14 = .ok (.aload_n 0, 1) := by decide +kernel
theorem dX1_walk_15 : decode cX1_walk 15 = .ok (.getfield 48, 3) := by decide +kernel
theorem dX1_walk_18 : decode cX1_walk 18 = .ok (.lconst 0, 1) := by decide +kernel
theorem dX1_walk_19 : decode cX1_walk 19 = .ok (.lastore, 1) := by decide +kernel
theorem dX1_walk_20 : decode cX1_walk 20 = .ok (.iload_n 1, 1) := by decide +kernel
theorem dX1_walk_21 : decode cX1_walk 21 = .ok (.istore_n 2, 1) := by decide +kernel
theorem dX1_walk_22 : decode cX1_walk 22 = .ok (.iconst 0, 1) := by decide +kernel
theorem dX1_walk_23 : decode cX1_walk 23 = .ok (.istore_n 3, 1) := by decide +kernel
theorem dX1_walk_24 : decode cX1_walk 24 = .ok (.iload_n 3, 1) := by decide +kernel
theorem dX1_walk_25 : decode cX1_walk 25 = .ok (.bipush 120, 2) := by decide +kernel
theorem dX1_walk_27 : decode cX1_walk 27 = .ok (.if_icmp .ge 56, 3) := by decide +kernel
theorem dX1_walk_30 : decode cX1_walk 30 = .ok (.aload_n 0, 1) := by decide +kernel
theorem dX1_walk_31 : decode cX1_walk 31 = .ok (.getfield 35, 3) := by decide +kernel
theorem dX1_walk_34 : decode cX1_walk 34 = .ok (.iload_n 2, 1) := by decide +kernel
theorem dX1_walk_35 : decode cX1_walk 35 = .ok (.iaload, 1) := by decide +kernel
theorem dX1_walk_36 : decode cX1_walk 36 = .ok (.iconst (-1), 1) := by decide +kernel
theorem dX1_walk_37 : decode cX1_walk 37 = .ok (.if_icmp .ne 46, 3) := by decide +kernel
theorem dX1_walk_40 : decode cX1_walk 40 = .ok (.aload_n 0, 1) := by decide +kernel
theorem dX1_walk_41 : decode cX1_walk 41 = .ok (.getfield 35, 3) := by decide +kernel
theorem dX1_walk_44 : decode cX1_walk 44 = .ok (.iload_n 2, 1) := by decide +kernel
theorem dX1_walk_45 : decode cX1_walk 45 = .ok (.aload_n 0, 1) := by decide +kernel
theorem dX1_walk_46 : decode cX1_walk 46 = .ok (.getfield 48, 3) := by decide +kernel
theorem dX1_walk_49 : decode cX1_walk 49 = .ok (.iastore, 1) := by decide +kernel
theorem dX1_walk_50 : decode cX1_walk 50 = .ok (.aload_n 0, 1) := by decide +kernel
theorem dX1_walk_51 : decode cX1_walk 51 = .ok (.getfield 41, 3) := by decide +kernel
theorem dX1_walk_54 : decode cX1_walk 54 = .ok (.aload_n 0, 1) := by decide +kernel
theorem dX1_walk_55 : decode cX1_walk 55 = .ok (.getfield 48, 3) := by decide +kernel
theorem dX1_walk_58 : decode cX1_walk 58 = .ok (.dup2, 1) := by decide +kernel
theorem dX1_walk_59 : decode cX1_walk 59 = .ok (.laload, 1) := by decide +kernel
theorem dX1_walk_60 : decode cX1_walk 60 = .ok (.aload_n 0, 1) := by decide +kernel
theorem dX1_walk_61 : decode cX1_walk 61 = .ok (.getfield 12, 3) := by decide +kernel
theorem dX1_walk_64 : decode cX1_walk 64 = .ok (.iload_n 2, 1) := by decide +kernel
theorem dX1_walk_65 : decode cX1_walk 65 = .ok (.invokevirtual 107, 3) := by decide +kernel
theorem dX1_walk_68 : decode cX1_walk 68 = .ok (.ladd, 1) := by decide +kernel
theorem dX1_walk_69 : decode cX1_walk 69 = .ok (.lastore, 1) := by decide +kernel
theorem dX1_walk_70 : decode cX1_walk 70 = .ok (.aload_n 0, 1) := by decide +kernel
theorem dX1_walk_71 : decode cX1_walk 71 = .ok (.getfield 22, 3) := by decide +kernel
theorem dX1_walk_74 : decode cX1_walk 74 = .ok (.iload_n 2, 1) := by decide +kernel
theorem dX1_walk_75 : decode cX1_walk 75 = .ok (.iaload, 1) := by decide +kernel
theorem dX1_walk_76 : decode cX1_walk 76 = .ok (.istore_n 2, 1) := by decide +kernel
theorem dX1_walk_77 : decode cX1_walk 77 = .ok (.iinc 3 1, 3) := by decide +kernel
theorem dX1_walk_80 : decode cX1_walk 80 = .ok (.goto (-56), 3) := by decide +kernel
theorem dX1_walk_83 : decode cX1_walk 83 = .ok (.return_, 1) := by decide +kernel
theorem dX1_pieceOfRound_0 : decode cX1_pieceOfRound 0 = .ok (.aload_n 0, 1) := by decide +kernel
theorem dX1_pieceOfRound_1 : decode cX1_pieceOfRound 1 = .ok (.getfield 28, 3) := by decide +kernel
theorem dX1_pieceOfRound_4 : decode cX1_pieceOfRound 4 = .ok (.aload_n 0, 1) := by decide +kernel
theorem dX1_pieceOfRound_5 : decode cX1_pieceOfRound 5 = .ok (.getfield 38, 3) := by decide +kernel
theorem dX1_pieceOfRound_8 : decode cX1_pieceOfRound 8 = .ok (.iload_n 1, 1) := by decide +kernel
theorem dX1_pieceOfRound_9 : decode cX1_pieceOfRound 9 = .ok (.iaload, 1) := by decide +kernel
theorem dX1_pieceOfRound_10 : decode cX1_pieceOfRound 10 = .ok (.iconst 1, 1) := by decide +kernel
theorem dX1_pieceOfRound_11 : decode cX1_pieceOfRound 11 = .ok (.ishr, 1) := by decide +kernel
theorem dX1_pieceOfRound_12 : decode cX1_pieceOfRound 12 = .ok (.iaload, 1) := by decide +kernel
theorem dX1_pieceOfRound_13 : decode cX1_pieceOfRound 13 = .ok (.ireturn, 1) := by decide +kernel
set_option maxRecDepth 20000 in
theorem ggX1_enclosing_X1_markOddRounds : GoodIn wsX1_enclosing wsX1_markOddRounds := goodIn_r _ [8, 2, 9, 10, 11, 12, 13, 14, 15, 16, 17, 18, 19, 20, 21, 22, 23, 24, 25, 26, 27, 28, 29, 30, 37, 38, 39, 40, 41, 42, 43, 44, 45, 46, 47, 48, 49, 50, 51] (by decide +kernel) (by decide +kernel)
set_option maxRecDepth 20000 in
theorem gX1_enclosing_X1_markOddRounds : GoodIn wsX1_enclosing (wsV RX1 111 RX1 yX1_markOddRounds wsX1_markOddRounds) := goodIn_app (goodIn_of _ (by decide +kernel)) ggX1_enclosing_X1_markOddRounds
set_option maxRecDepth 20000 in
theorem ggX1_enclosing_X1_pieceOfRound : GoodIn wsX1_enclosing wsX1_pieceOfRound := goodIn_r _ [34, 35, 36, 37, 38, 39, 40, 41, 42, 43, 44, 45, 46, 47] (by decide +kernel) (by decide +kernel)
set_option maxRecDepth 20000 in
theorem gX1_enclosing_X1_pieceOfRound : GoodIn wsX1_enclosing (wsV RX1 114 RX1 yX1_pieceOfRound wsX1_pieceOfRound) := goodIn_app (goodIn_of _ (by decide +kernel)) ggX1_enclosing_X1_pieceOfRound
theorem dX1_enclosing_0 : decode cX1_enclosing 0 = .ok (.aload_n 0, 1) := by decide +kernel
theorem dX1_enclosing_1 : decode cX1_enclosing 1 = .ok (.iload_n 1, 1) := by decide +kernel
theorem dX1_enclosing_2 : decode cX1_enclosing 2 = .ok (.iload_n 2, 1) := by decide +kernel
theorem dX1_enclosing_3 : decode cX1_enclosing 3 = .ok (.invokevirtual 111, 3) := by decide +kernel
theorem dX1_enclosing_6 : decode cX1_enclosing 6 = .ok (.iconst (-1), 1) := by decide +kernel
theorem dX1_enclosing_7 : decode cX1_enclosing 7 = .ok (.istore 4, 2) := by decide +kernel
theorem dX1_enclosing_9 : decode cX1_enclosing 9 = .ok (.iconst 0, 1) := by decide +kernel
theorem dX1_enclosing_10 : decode cX1_enclosing 10 = .ok (.istore 5, 2) := by decide +kernel
theorem dX1_enclosing_12 : decode cX1_enclosing 12 = .ok (.iload 5, 2) := by decide +kernel
theorem dX1_enclosing_14 : decode cX1_enclosing 14 = .ok (.aload_n 0, 1) := by decide +kernel
theorem dX1_enclosing_15 : decode cX1_enclosing 15 = .ok (.getfield 48, 3) := by decide +kernel
theorem dX1_enclosing_18 : decode cX1_enclosing 18 = .ok (.if_icmp .ge 82, 3) := by decide +kernel
theorem dX1_enclosing_21 : decode cX1_enclosing 21 = .ok (.aload_n 0, 1) := by decide +kernel
theorem dX1_enclosing_22 : decode cX1_enclosing 22 = .ok (.getfield 45, 3) := by decide +kernel
theorem dX1_enclosing_25 : decode cX1_enclosing 25 = .ok (.iload 5, 2) := by decide +kernel
theorem dX1_enclosing_27 : decode cX1_enclosing 27 = .ok (.iaload, 1) := by decide +kernel
theorem dX1_enclosing_28 : decode cX1_enclosing 28 = .ok (.iconst 1, 1) := by decide +kernel
theorem dX1_enclosing_29 : decode cX1_enclosing 29 = .ok (.if_icmp .ne 29, 3) := by decide +kernel
theorem dX1_enclosing_32 : decode cX1_enclosing 32 = .ok (.aload_n 0, 1) := by decide +kernel
theorem dX1_enclosing_33 : decode cX1_enclosing 33 = .ok (.getfield 41, 3) := by decide +kernel
theorem dX1_enclosing_36 : decode cX1_enclosing 36 = .ok (.iload 5, 2) := by decide +kernel
theorem dX1_enclosing_38 : decode cX1_enclosing 38 = .ok (.laload, 1) := by decide +kernel
theorem dX1_enclosing_39 : decode cX1_enclosing 39 = .ok (.lconst 0, 1) := by decide +kernel
theorem dX1_enclosing_40 : decode cX1_enclosing 40 = .ok (.lcmp, 1) := by decide +kernel
theorem dX1_enclosing_41 : decode cX1_enclosing 41 = .ok (.ifCond .le 17, 3) := by decide +kernel
theorem dX1_enclosing_44 : decode cX1_enclosing 44 = .ok (.aload_n 0, 1) := by decide +kernel
theorem dX1_enclosing_45 : decode cX1_enclosing 45 = .ok (.iload 5, 2) := by decide +kernel
theorem dX1_enclosing_47 : decode cX1_enclosing 47 = .ok (.invokevirtual 114, 3) := by decide +kernel
theorem dX1_enclosing_50 : decode cX1_enclosing 50 = .ok (.iload_n 3, 1) := by decide +kernel
theorem dX1_enclosing_51 : decode cX1_enclosing 51 = .ok (.if_icmp .eq 7, 3) := by decide +kernel
theorem dX1_enclosing_54 : decode cX1_enclosing 54 = .ok (.iconst 1, 1) := by decide +kernel
theorem dX1_enclosing_55 : decode cX1_enclosing 55 = .ok (.goto 4, 3) := by decide +kernel
theorem dX1_enclosing_58 : decode cX1_enclosing 58 = .ok (.iconst 0, 1) := by decide +kernel
theorem dX1_enclosing_59 : decode cX1_enclosing 59 = .ok (.istore 6, 2) := by decide +kernel
theorem dX1_enclosing_61 : decode cX1_enclosing 61 = .ok (.iload 6, 2) := by decide +kernel
theorem dX1_enclosing_63 : decode cX1_enclosing 63 = .ok (.ifCond .eq 31, 3) := by decide +kernel
theorem dX1_enclosing_66 : decode cX1_enclosing 66 = .ok (.iload 4, 2) := by decide +kernel
theorem dX1_enclosing_68 : decode cX1_enclosing 68 = .ok (.iconst (-1), 1) := by decide +kernel
theorem dX1_enclosing_69 : decode cX1_enclosing 69 = .ok (.if_icmp .eq 21, 3) := by decide +kernel
theorem dX1_enclosing_72 : decode cX1_enclosing 72 = .ok (.aload_n 0, 1) := by decide +kernel
theorem dX1_enclosing_73 : decode cX1_enclosing 73 = .ok (.getfield 41, 3) := by decide +kernel
theorem dX1_enclosing_76 : decode cX1_enclosing 76 = .ok (.iload 5, 2) := by decide +kernel
theorem dX1_enclosing_78 : decode cX1_enclosing 78 = .ok (.laload, 1) := by decide +kernel
theorem dX1_enclosing_79 : decode cX1_enclosing 79 = .ok (.aload_n 0, 1) := by decide +kernel
theorem dX1_enclosing_80 : decode cX1_enclosing 80 = .ok (.getfield 41, 3) := by decide +kernel
theorem dX1_enclosing_83 : decode cX1_enclosing 83 = .ok (.iload 4, 2) := by decide +kernel
theorem dX1_enclosing_85 : decode cX1_enclosing 85 = .ok (.laload, 1) := by decide +kernel
theorem dX1_enclosing_86 : decode cX1_enclosing 86 = .ok (.lcmp, 1) := by decide +kernel
theorem dX1_enclosing_87 : decode cX1_enclosing 87 = .ok (.ifCond .ge 7, 3) := by decide +kernel
theorem dX1_enclosing_90 : decode cX1_enclosing 90 = .ok (.iload 5, 2) := by decide +kernel
theorem dX1_enclosing_92 : decode cX1_enclosing 92 = .ok (.istore 4, 2) := by decide +kernel
theorem dX1_enclosing_94 : decode cX1_enclosing 94 = .ok (.iinc 5 1, 3) := by decide +kernel
theorem dX1_enclosing_97 : decode cX1_enclosing 97 = .ok (.goto (-85), 3) := by decide +kernel
theorem dX1_enclosing_100 : decode cX1_enclosing 100 = .ok (.iload 4, 2) := by decide +kernel
theorem dX1_enclosing_102 : decode cX1_enclosing 102 = .ok (.ireturn, 1) := by decide +kernel
set_option maxRecDepth 20000 in
theorem ggX1_markOddRounds_J7_fill_53178 : GoodIn wsX1_markOddRounds wsJ7_fill_53178 := goodIn_r _ [8] (by decide +kernel) (by decide +kernel)
set_option maxRecDepth 20000 in
theorem gX1_markOddRounds_J7_fill_53178 : GoodIn wsX1_markOddRounds (va_wsS RX1 97 yJ7_fill_53178 wsJ7_fill_53178) := goodIn_app (goodIn_of _ (by decide +kernel)) ggX1_markOddRounds_J7_fill_53178
set_option maxRecDepth 20000 in
theorem ggX1_markOddRounds_X2_roofs : GoodIn wsX1_markOddRounds wsX2_roofs := goodIn_r _ [13, 14, 15, 16, 17, 12, 18, 19, 20, 21, 22, 23, 35, 36, 37, 38] (by decide +kernel) (by decide +kernel)
set_option maxRecDepth 20000 in
theorem gX1_markOddRounds_X2_roofs : GoodIn wsX1_markOddRounds (wsV RX1 117 RX2 yX2_roofs wsX2_roofs) := goodIn_app (goodIn_of _ (by decide +kernel)) ggX1_markOddRounds_X2_roofs
theorem dX1_markOddRounds_0 : decode cX1_markOddRounds 0 = .ok (.aload_n 0, 1) := by decide +kernel
theorem dX1_markOddRounds_1 : decode cX1_markOddRounds 1 = .ok (.getfield 45, 3) := by decide +kernel
theorem dX1_markOddRounds_4 : decode cX1_markOddRounds 4 = .ok (.iconst 0, 1) := by decide +kernel
theorem dX1_markOddRounds_5 : decode cX1_markOddRounds 5 = .ok (.invokestatic 97, 3) := by decide +kernel
theorem dX1_markOddRounds_8 : decode cX1_markOddRounds 8 = .ok (.iconst 0, 1) := by decide +kernel
theorem dX1_markOddRounds_9 : decode cX1_markOddRounds 9 = .ok (.istore_n 3, 1) := by decide +kernel
theorem dX1_markOddRounds_10 : decode cX1_markOddRounds 10 = .ok (.iload_n 3, 1) := by decide +kernel
theorem dX1_markOddRounds_11 : decode cX1_markOddRounds 11 = .ok (.bipush 60, 2) := by decide +kernel
theorem dX1_markOddRounds_13 : decode cX1_markOddRounds 13 = .ok (.if_icmp .ge 70, 3) := by decide +kernel
theorem dX1_markOddRounds_16 : decode cX1_markOddRounds 16 = .ok (.aload_n 0, 1) := by decide +kernel
theorem dX1_markOddRounds_17 : decode cX1_markOddRounds 17 = .ok (.getfield 12, 3) := by decide +kernel
theorem dX1_markOddRounds_20 : decode cX1_markOddRounds 20 = .ok (.getfield 54, 3) := by decide +kernel
theorem dX1_markOddRounds_23 : decode cX1_markOddRounds 23 = .ok (.iload_n 3, 1) := by decide +kernel
theorem dX1_markOddRounds_24 : decode cX1_markOddRounds 24 = .ok (.baload, 1) := by decide +kernel
theorem dX1_markOddRounds_25 : decode cX1_markOddRounds 25 = .ok (.ifCond .eq 52, 3) := by decide +kernel
theorem dX1_markOddRounds_28 : decode cX1_markOddRounds 28 = .ok (.aload_n 0, 1) := by decide +kernel
theorem dX1_markOddRounds_29 : decode cX1_markOddRounds 29 = .ok (.getfield 12, 3) := by decide +kernel
theorem dX1_markOddRounds_32 : decode cX1_markOddRounds 32 = .ok (.iload_n 3, 1) := by decide +kernel
theorem dX1_markOddRounds_33 : decode cX1_markOddRounds 33 = .ok (.iload_n 1, 1) := by decide +kernel
theorem dX1_markOddRounds_34 : decode cX1_markOddRounds 34 = .ok (.iload_n 2, 1) := by decide +kernel
theorem dX1_markOddRounds_35 : decode cX1_markOddRounds 35 = .ok (.invokevirtual 117, 3) := by decide +kernel
theorem dX1_markOddRounds_38 : decode cX1_markOddRounds 38 = .ok (.ifCond .eq 39, 3) := by decide +kernel
theorem dX1_markOddRounds_41 : decode cX1_markOddRounds 41 = .ok (.aload_n 0, 1) := by decide +kernel
theorem dX1_markOddRounds_42 : decode cX1_markOddRounds 42 = .ok (.getfield 45, 3) := by decide +kernel
theorem dX1_markOddRounds_45 : decode cX1_markOddRounds 45 = .ok (.aload_n 0, 1) := by decide +kernel
theorem dX1_markOddRounds_46 : decode cX1_markOddRounds 46 = .ok (.getfield 35, 3) := by decide +kernel
theorem dX1_markOddRounds_49 : decode cX1_markOddRounds 49 = .ok (.iconst 2, 1) := by decide +kernel
theorem dX1_markOddRounds_50 : decode cX1_markOddRounds 50 = .ok (.iload_n 3, 1) := by decide +kernel
theorem dX1_markOddRounds_51 : decode cX1_markOddRounds 51 = .ok (.imul, 1) := by decide +kernel
theorem dX1_markOddRounds_52 : decode cX1_markOddRounds 52 = .ok (.iaload, 1) := by decide +kernel
theorem dX1_markOddRounds_53 : decode cX1_markOddRounds 53 = .ok (.dup2, 1) := by decide +kernel
theorem dX1_markOddRounds_54 : decode cX1_markOddRounds 54 = .ok (.iaload, 1) := by decide +kernel
theorem dX1_markOddRounds_55 : decode cX1_markOddRounds 55 = .ok (.iconst 1, 1) := by decide +kernel
theorem dX1_markOddRounds_56 : decode cX1_markOddRounds 56 = .ok (.ixor, 1) := by decide +kernel
theorem dX1_markOddRounds_57 : decode cX1_markOddRounds 57 = .ok (.iastore, 1) := by decide +kernel
theorem dX1_markOddRounds_58 : decode cX1_markOddRounds 58 = .ok (.aload_n 0, 1) := by decide +kernel
theorem dX1_markOddRounds_59 : decode cX1_markOddRounds 59 = .ok (.getfield 45, 3) := by decide +kernel
theorem dX1_markOddRounds_62 : decode cX1_markOddRounds 62 = .ok (.aload_n 0, 1) := by decide +kernel
theorem dX1_markOddRounds_63 : decode cX1_markOddRounds 63 = .ok (.getfield 35, 3) := by decide +kernel
theorem dX1_markOddRounds_66 : decode cX1_markOddRounds 66 = .ok (.iconst 2, 1) := by decide +kernel
theorem dX1_markOddRounds_67 : decode cX1_markOddRounds 67 = .ok (.iload_n 3, 1) := by decide +kernel
theorem dX1_markOddRounds_68 : decode cX1_markOddRounds 68 = .ok (.imul, 1) := by decide +kernel
theorem dX1_markOddRounds_69 : decode cX1_markOddRounds 69 = .ok (.iconst 1, 1) := by decide +kernel
theorem dX1_markOddRounds_70 : decode cX1_markOddRounds 70 = .ok (.iadd, 1) := by decide +kernel
theorem dX1_markOddRounds_71 : decode cX1_markOddRounds 71 = .ok (.iaload, 1) := by decide +kernel
theorem dX1_markOddRounds_72 : decode cX1_markOddRounds 72 = .ok (.dup2, 1) := by decide +kernel
theorem dX1_markOddRounds_73 : decode cX1_markOddRounds 73 = .ok (.iaload, 1) := by decide +kernel
theorem dX1_markOddRounds_74 : decode cX1_markOddRounds 74 = .ok (.iconst 1, 1) := by decide +kernel
theorem dX1_markOddRounds_75 : decode cX1_markOddRounds 75 = .ok (.ixor, 1) := by decide +kernel
theorem dX1_markOddRounds_76 : decode cX1_markOddRounds 76 = .ok (.iastore, 1) := by decide +kernel
theorem dX1_markOddRounds_77 : decode cX1_markOddRounds 77 = .ok (.iinc 3 1, 3) := by decide +kernel
theorem dX1_markOddRounds_80 : decode cX1_markOddRounds 80 = .ok (.goto (-70), 3) := by decide +kernel
theorem dX1_markOddRounds_83 : decode cX1_markOddRounds 83 = .ok (.return_, 1) := by decide +kernel
set_option maxRecDepth 20000 in
theorem ggX3_init_X0_init : GoodIn wsX3_init wsX0_init := goodIn_r _ [14, 15, 2, 3, 16, 17, 18, 19, 20, 21, 22, 23, 24, 25, 26, 27, 28, 29, 30, 31, 32, 33, 34, 35, 36, 37, 38, 39, 40, 41, 42, 43, 44, 45, 46, 47, 48, 49, 50, 51, 52, 53, 54, 67, 68, 69, 70, 71, 72, 73, 74, 75, 76, 77, 55, 56, 57, 58, 59, 60, 61, 62, 78, 79, 80, 81] (by decide +kernel) (by decide +kernel)
set_option maxRecDepth 20000 in
theorem gX3_init_X0_init_n11 : GoodIn wsX3_init (wsX0_init) := ggX3_init_X0_init
theorem dX3_init_0 : decode cX3_init 0 = .ok (.aload_n 0, 1) := by decide +kernel
theorem dX3_init_1 : decode cX3_init 1 = .ok (.invokespecial 3, 3) := by decide +kernel
theorem dX3_init_4 : decode cX3_init 4 = .ok (.aload_n 0, 1) := by decide +kernel
theorem dX3_init_5 : decode cX3_init 5 = .ok (.new 9, 3) := by decide +kernel
theorem dX3_init_8 : decode cX3_init 8 = .ok (.dup, 1) := by decide +kernel
theorem dX3_init_9 : decode cX3_init 9 = .ok (.invokespecial 11, 3) := by decide +kernel
theorem dX3_init_12 : decode cX3_init 12 = .ok (.putfield 12, 3) := by decide +kernel
theorem dX3_init_15 : decode cX3_init 15 = .ok (.aload_n 0, 1) := by decide +kernel
theorem dX3_init_16 : decode cX3_init 16 = .ok (.aload_n 0, 1) := by decide +kernel
theorem dX3_init_17 : decode cX3_init 17 = .ok (.getfield 12, 3) := by decide +kernel
theorem dX3_init_20 : decode cX3_init 20 = .ok (.getfield 16, 3) := by decide +kernel
theorem dX3_init_23 : decode cX3_init 23 = .ok (.putfield 20, 3) := by decide +kernel
theorem dX3_init_26 : decode cX3_init 26 = .ok (.aload_n 0, 1) := by decide +kernel
theorem dX3_init_27 : decode cX3_init 27 = .ok (.aload_n 0, 1) := by decide +kernel
theorem dX3_init_28 : decode cX3_init 28 = .ok (.getfield 20, 3) := by decide +kernel
theorem dX3_init_31 : decode cX3_init 31 = .ok (.getfield 21, 3) := by decide +kernel
theorem dX3_init_34 : decode cX3_init 34 = .ok (.putfield 27, 3) := by decide +kernel
theorem dX3_init_37 : decode cX3_init 37 = .ok (.aload_n 0, 1) := by decide +kernel
theorem dX3_init_38 : decode cX3_init 38 = .ok (.iconst 0, 1) := by decide +kernel
theorem dX3_init_39 : decode cX3_init 39 = .ok (.putfield 28, 3) := by decide +kernel
theorem dX3_init_42 : decode cX3_init 42 = .ok (.return_, 1) := by decide +kernel
set_option maxRecDepth 20000 in
theorem ggX3_add_X3_requirePlace : GoodIn wsX3_add wsX3_requirePlace := goodIn_ca (goodIn_r _ [10, 1, 2] (by decide +kernel) (by decide +kernel)) (goodIn_sub (fun _ h => List.mem_cons_of_mem _ (List.mem_append_left _ (List.mem_append_right _ h))) (by decide +kernel))
set_option maxRecDepth 20000 in
theorem gX3_add_X3_requirePlace : GoodIn wsX3_add (va_wsS RX3 32 yX3_requirePlace wsX3_requirePlace) := goodIn_app (goodIn_of _ (by decide +kernel)) ggX3_add_X3_requirePlace
set_option maxRecDepth 20000 in
theorem ggX3_add_X2_leastFree : GoodIn wsX3_add wsX2_leastFree := goodIn_r _ [15, 16, 64, 65, 66, 67] (by decide +kernel) (by decide +kernel)
set_option maxRecDepth 20000 in
theorem gX3_add_X2_leastFree : GoodIn wsX3_add (wsV RX3 43 RX2 yX2_leastFree wsX2_leastFree) := goodIn_app (goodIn_of _ (by decide +kernel)) ggX3_add_X2_leastFree
set_option maxRecDepth 20000 in
theorem ggX3_add_X2_draw : GoodIn wsX3_add wsX2_draw := goodIn_r _ [20, 21, 22, 64, 65, 66, 67] (by decide +kernel) (by decide +kernel)
set_option maxRecDepth 20000 in
theorem gX3_add_X2_draw : GoodIn wsX3_add (wsV RX3 54 RX2 yX2_draw wsX2_draw) := goodIn_app (goodIn_of _ (by decide +kernel)) ggX3_add_X2_draw
set_option maxRecDepth 20000 in
theorem ggX3_add_X2_clashes : GoodIn wsX3_add wsX2_clashes := goodIn_r _ [26, 16, 27, 28, 29, 14, 30, 21, 22, 31, 32, 33, 34, 35, 36, 37, 38, 39, 40, 41, 42, 43, 44, 45, 46, 47, 48, 49, 50, 51, 52, 53, 54, 64, 65, 66, 67] (by decide +kernel) (by decide +kernel)
set_option maxRecDepth 20000 in
theorem gX3_add_X2_clashes : GoodIn wsX3_add (wsV RX3 58 RX2 yX2_clashes wsX2_clashes) := goodIn_app (goodIn_of _ (by decide +kernel)) ggX3_add_X2_clashes
set_option maxRecDepth 20000 in
theorem ggX3_add_X2_keep : GoodIn wsX3_add wsX2_keep := goodIn_r _ [58, 16, 59, 64, 65, 66, 67] (by decide +kernel) (by decide +kernel)
set_option maxRecDepth 20000 in
theorem gX3_add_X2_keep : GoodIn wsX3_add (wsV RX3 62 RX2 yX2_keep wsX2_keep) := goodIn_app (goodIn_of _ (by decide +kernel)) ggX3_add_X2_keep
theorem dX3_add_0 : decode cX3_add 0 = .ok (.iload_n 1, 1) := by decide +kernel
theorem dX3_add_1 : decode cX3_add 1 = .ok (.iload_n 2, 1) := by decide +kernel
theorem dX3_add_2 : decode cX3_add 2 = .ok (.invokestatic 32, 3) := by decide +kernel
theorem dX3_add_5 : decode cX3_add 5 = .ok (.iload_n 3, 1) := by decide +kernel
theorem dX3_add_6 : decode cX3_add 6 = .ok (.iload 4, 2) := by decide +kernel
theorem dX3_add_8 : decode cX3_add 8 = .ok (.invokestatic 32, 3) := by decide +kernel
theorem dX3_add_11 : decode cX3_add 11 = .ok (.iload_n 1, 1) := by decide +kernel
theorem dX3_add_12 : decode cX3_add 12 = .ok (.iload_n 3, 1) := by decide +kernel
theorem dX3_add_13 : decode cX3_add 13 = .ok (.if_icmp .ne 19, 3) := by decide +kernel
theorem dX3_add_16 : decode cX3_add 16 = .ok (.iload_n 2, 1) := by decide +kernel
theorem dX3_add_17 : decode cX3_add 17 = .ok (.iload 4, 2) := by decide +kernel
theorem dX3_add_19 : decode cX3_add 19 = .ok (.if_icmp .ne 13, 3) := by decide +kernel
theorem dX3_add_22 : decode cX3_add 22 = .ok (.new 36, 3) := by decide +kernel
theorem dX3_add_25 : decode cX3_add 25 = .ok (.dup, 1) := by decide +kernel
theorem dX3_add_26 : decode cX3_add 26 = .ok (.ldc 38, 2) := by decide +kernel
theorem dX3_add_28 : decode cX3_add 28 = .ok (.invokespecial 40, 3) := by decide +kernel
theorem dX3_add_31 : decode cX3_add 31 = .ok (.athrow, 1) := by decide +kernel
theorem dX3_add_32 : decode cX3_add 32 = .ok (.aload_n 0, 1) := by decide +kernel
theorem dX3_add_33 : decode cX3_add 33 = .ok (.getfield 27, 3) := by decide +kernel
theorem dX3_add_36 : decode cX3_add 36 = .ok (.invokevirtual 43, 3) := by decide +kernel
theorem dX3_add_39 : decode cX3_add 39 = .ok (.istore 5, 2) := by decide +kernel
theorem dX3_add_41 : decode cX3_add 41 = .ok (.iload 5, 2) := by decide +kernel
theorem dX3_add_43 : decode cX3_add 43 = .ok (.iconst (-1), 1) := by decide +kernel
theorem dX3_add_44 : decode cX3_add 44 = .ok (.if_icmp .ne 13, 3) := by decide +kernel
theorem dX3_add_47 : decode cX3_add 47 = .ok (.new 49, 3) := by decide +kernel
theorem dX3_add_50 : decode cX3_add 50 = .ok (.dup, 1) := by decide +kernel
theorem dX3_add_51 : decode cX3_add 51 = .ok (.ldc 51, 2) := by decide +kernel
theorem dX3_add_53 : decode cX3_add 53 = .ok (.invokespecial 53, 3) := by decide +kernel
theorem dX3_add_56 : decode cX3_add 56 = .ok (.athrow, 1) := by decide +kernel
theorem dX3_add_57 : decode cX3_add 57 = .ok (.aload_n 0, 1) := by decide +kernel
theorem dX3_add_58 : decode cX3_add 58 = .ok (.getfield 27, 3) := by decide +kernel
theorem dX3_add_61 : decode cX3_add 61 = .ok (.iload 5, 2) := by decide +kernel
theorem dX3_add_63 : decode cX3_add 63 = .ok (.iload_n 1, 1) := by decide +kernel
theorem dX3_add_64 : decode cX3_add 64 = .ok (.iload_n 2, 1) := by decide +kernel
theorem dX3_add_65 : decode cX3_add 65 = .ok (.iload_n 3, 1) := by decide +kernel
theorem dX3_add_66 : decode cX3_add 66 = .ok (.iload 4, 2) := by decide +kernel
theorem dX3_add_68 : decode cX3_add 68 = .ok (.invokevirtual 54, 3) := by decide +kernel
theorem dX3_add_71 : decode cX3_add 71 = .ok (.aload_n 0, 1) := by decide +kernel
theorem dX3_add_72 : decode cX3_add 72 = .ok (.getfield 27, 3) := by decide +kernel
theorem dX3_add_75 : decode cX3_add 75 = .ok (.iload 5, 2) := by decide +kernel
theorem dX3_add_77 : decode cX3_add 77 = .ok (.invokevirtual 58, 3) := by decide +kernel
theorem dX3_add_80 : decode cX3_add 80 = .ok (.ifCond .eq 5, 3) := by decide +kernel
theorem dX3_add_83 : decode cX3_add 83 = .ok (.iconst (-1), 1) := by decide +kernel
theorem dX3_add_84 : decode cX3_add 84 = .ok (.ireturn, 1) := by decide +kernel
theorem dX3_add_85 : decode cX3_add 85 = .ok (.aload_n 0, 1) := by decide +kernel
theorem dX3_add_86 : decode cX3_add 86 = .ok (.getfield 27, 3) := by decide +kernel
theorem dX3_add_89 : decode cX3_add 89 = .ok (.iload 5, 2) := by decide +kernel
theorem dX3_add_91 : decode cX3_add 91 = .ok (.invokevirtual 62, 3) := by decide +kernel
theorem dX3_add_94 : decode cX3_add 94 = .ok (.aload_n 0, 1) := by decide +kernel
theorem dX3_add_95 : decode cX3_add 95 = .ok (.iconst 1, 1) := by decide +kernel
theorem dX3_add_96 : decode cX3_add 96 = .ok (.putfield 28, 3) := by decide +kernel
theorem dX3_add_99 : decode cX3_add 99 = .ok (.iload 5, 2) := by decide +kernel
theorem dX3_add_101 : decode cX3_add 101 = .ok (.ireturn, 1) := by decide +kernel
set_option maxRecDepth 20000 in
theorem ggX3_remove_X2_has : GoodIn wsX3_remove wsX2_has := goodIn_r _ [7, 8, 18, 19, 20, 21] (by decide +kernel) (by decide +kernel)
set_option maxRecDepth 20000 in
theorem gX3_remove_X2_has : GoodIn wsX3_remove (wsV RX3 66 RX2 yX2_has wsX2_has) := goodIn_app (goodIn_of _ (by decide +kernel)) ggX3_remove_X2_has
set_option maxRecDepth 20000 in
theorem ggX3_remove_X2_drop : GoodIn wsX3_remove wsX2_drop := goodIn_r _ [12, 8, 13, 18, 19, 20, 21] (by decide +kernel) (by decide +kernel)
set_option maxRecDepth 20000 in
theorem gX3_remove_X2_drop : GoodIn wsX3_remove (wsV RX3 69 RX2 yX2_drop wsX2_drop) := goodIn_app (goodIn_of _ (by decide +kernel)) ggX3_remove_X2_drop
theorem dX3_remove_0 : decode cX3_remove 0 = .ok (.aload_n 0, 1) := by decide +kernel
theorem dX3_remove_1 : decode cX3_remove 1 = .ok (.getfield 27, 3) := by decide +kernel
theorem dX3_remove_4 : decode cX3_remove 4 = .ok (.iload_n 1, 1) := by decide +kernel
theorem dX3_remove_5 : decode cX3_remove 5 = .ok (.invokevirtual 66, 3) := by decide +kernel
theorem dX3_remove_8 : decode cX3_remove 8 = .ok (.ifCond .ne 5, 3) := by decide +kernel
theorem dX3_remove_11 : decode cX3_remove 11 = .ok (.iconst 0, 1) := by decide +kernel
theorem dX3_remove_12 : decode cX3_remove 12 = .ok (.ireturn, 1) := by decide +kernel
theorem dX3_remove_13 : decode cX3_remove 13 = .ok (.aload_n 0, 1) := by decide +kernel
theorem dX3_remove_14 : decode cX3_remove 14 = .ok (.getfield 27, 3) := by decide +kernel
theorem dX3_remove_17 : decode cX3_remove 17 = .ok (.iload_n 1, 1) := by decide +kernel
theorem dX3_remove_18 : decode cX3_remove 18 = .ok (.invokevirtual 69, 3) := by decide +kernel
theorem dX3_remove_21 : decode cX3_remove 21 = .ok (.aload_n 0, 1) := by decide +kernel
theorem dX3_remove_22 : decode cX3_remove 22 = .ok (.iconst 1, 1) := by decide +kernel
theorem dX3_remove_23 : decode cX3_remove 23 = .ok (.putfield 28, 3) := by decide +kernel
theorem dX3_remove_26 : decode cX3_remove 26 = .ok (.iconst 1, 1) := by decide +kernel
theorem dX3_remove_27 : decode cX3_remove 27 = .ok (.ireturn, 1) := by decide +kernel
set_option maxRecDepth 20000 in
theorem ggX3_clear_X2_dropAll : GoodIn wsX3_clear wsX2_dropAll := goodIn_r _ [8, 9, 10, 15, 16, 17, 18] (by decide +kernel) (by decide +kernel)
set_option maxRecDepth 20000 in
theorem gX3_clear_X2_dropAll : GoodIn wsX3_clear (wsV RX3 76 RX2 yX2_dropAll wsX2_dropAll) := goodIn_app (goodIn_of _ (by decide +kernel)) ggX3_clear_X2_dropAll
theorem dX3_clear_0 : decode cX3_clear 0 = .ok (.aload_n 0, 1) := by decide +kernel
theorem dX3_clear_1 : decode cX3_clear 1 = .ok (.getfield 27, 3) := by decide +kernel
theorem dX3_clear_4 : decode cX3_clear 4 = .ok (.getfield 72, 3) := by decide +kernel
theorem dX3_clear_7 : decode cX3_clear 7 = .ok (.istore_n 1, 1) := by decide +kernel
theorem dX3_clear_8 : decode cX3_clear 8 = .ok (.aload_n 0, 1) := by decide +kernel
theorem dX3_clear_9 : decode cX3_clear 9 = .ok (.getfield 27, 3) := by decide +kernel
theorem dX3_clear_12 : decode cX3_clear 12 = .ok (.invokevirtual 76, 3) := by decide +kernel
theorem dX3_clear_15 : decode cX3_clear 15 = .ok (.aload_n 0, 1) := by decide +kernel
theorem dX3_clear_16 : decode cX3_clear 16 = .ok (.iconst 1, 1) := by decide +kernel
theorem dX3_clear_17 : decode cX3_clear 17 = .ok (.putfield 28, 3) := by decide +kernel
theorem dX3_clear_20 : decode cX3_clear 20 = .ok (.iload_n 1, 1) := by decide +kernel
theorem dX3_clear_21 : decode cX3_clear 21 = .ok (.ireturn, 1) := by decide +kernel
set_option maxRecDepth 20000 in
theorem ggX3_count_X3_refresh : GoodIn wsX3_count wsX3_refresh := goodIn_r _ [12, 13, 3, 4, 14, 15, 16, 17, 18, 19, 20, 21, 22, 23, 24, 25, 26, 27, 28, 29, 30, 31, 32, 33, 34, 35, 36, 37, 38, 39, 40, 41, 42, 43, 44, 45, 46, 47, 48, 49, 50, 51, 52, 53, 54, 55, 56, 57, 58, 59, 60, 61, 62, 63, 64, 65, 66, 67, 68, 69, 70, 71, 72, 73, 74, 75, 76, 77, 78, 79, 80, 81, 82, 83, 84, 85, 86, 87, 88, 89, 90, 91, 92, 93, 94, 95, 96, 97, 98, 99, 100, 101, 102, 103, 104, 105, 106, 107, 108, 109, 110, 111, 112, 113, 114, 115, 116, 117, 118, 119, 120, 121, 122, 123, 124, 125, 126, 127, 128, 129, 130, 131, 132, 133, 134, 135, 136, 137, 138, 139, 140, 141, 142, 143, 144, 145, 146, 147, 148, 149, 150, 151, 160, 161, 162, 163, 176, 177, 178, 179, 180, 181, 182, 183, 184, 185, 186, 164, 165, 166, 167, 168, 169, 170, 171, 172, 173, 174, 175] (by decide +kernel) (by decide +kernel)
set_option maxRecDepth 20000 in
theorem gX3_count_X3_refresh : GoodIn wsX3_count (wsV RX3 79 RX3 yX3_refresh wsX3_refresh) := goodIn_app (goodIn_of _ (by decide +kernel)) ggX3_count_X3_refresh
set_option maxRecDepth 20000 in
theorem ggX3_count_X1_corners : GoodIn wsX3_count wsX1_corners := goodIn_r _ [155, 20, 21, 26, 176, 177, 178, 179, 180, 181, 182, 183, 184, 185, 186, 164, 165, 166, 167] (by decide +kernel) (by decide +kernel)
set_option maxRecDepth 20000 in
theorem gX3_count_X1_corners : GoodIn wsX3_count (wsV RX3 82 RX1 yX1_corners wsX1_corners) := goodIn_app (goodIn_of _ (by decide +kernel)) ggX3_count_X1_corners
set_option maxRecDepth 20000 in
theorem ggX3_count_X0_bridges : GoodIn wsX3_count wsX0_bridges := goodIn_r _ [159, 110, 145, 103, 168, 169, 170, 171, 172, 173, 174, 175, 164, 165, 166, 167] (by decide +kernel) (by decide +kernel)
set_option maxRecDepth 20000 in
theorem gX3_count_X0_bridges : GoodIn wsX3_count (wsV RX3 89 RX0 yX0_bridges wsX0_bridges) := goodIn_app (goodIn_of _ (by decide +kernel)) ggX3_count_X0_bridges
theorem dX3_count_0 : decode cX3_count 0 = .ok (.aload_n 0, 1) := by decide +kernel
theorem dX3_count_1 : decode cX3_count 1 = .ok (.invokevirtual 79, 3) := by decide +kernel
theorem dX3_count_4 : decode cX3_count 4 = .ok (.iload_n 1, 1) := by decide +kernel
theorem dX3_count_5 : decode cX3_count 5 = .ok (.tableswitch 87 0 5 #[39, 47, 55, 63, 71, 79], 39) := by decide +kernel
theorem dX3_count_44 : decode cX3_count 44 = .ok (.aload_n 0, 1) := by decide +kernel
theorem dX3_count_45 : decode cX3_count 45 = .ok (.getfield 27, 3) := by decide +kernel
theorem dX3_count_48 : decode cX3_count 48 = .ok (.getfield 72, 3) := by decide +kernel
theorem dX3_count_51 : decode cX3_count 51 = .ok (.ireturn, 1) := by decide +kernel
theorem dX3_count_52 : decode cX3_count 52 = .ok (.aload_n 0, 1) := by decide +kernel
theorem dX3_count_53 : decode cX3_count 53 = .ok (.getfield 20, 3) := by decide +kernel
theorem dX3_count_56 : decode cX3_count 56 = .ok (.invokevirtual 82, 3) := by decide +kernel
theorem dX3_count_59 : decode cX3_count 59 = .ok (.ireturn, 1) := by decide +kernel
theorem dX3_count_60 : decode cX3_count 60 = .ok (.aload_n 0, 1) := by decide +kernel
theorem dX3_count_61 : decode cX3_count 61 = .ok (.getfield 12, 3) := by decide +kernel
theorem dX3_count_64 : decode cX3_count 64 = .ok (.getfield 85, 3) := by decide +kernel
theorem dX3_count_67 : decode cX3_count 67 = .ok (.ireturn, 1) := by decide +kernel
theorem dX3_count_68 : decode cX3_count 68 = .ok (.aload_n 0, 1) := by decide +kernel
theorem dX3_count_69 : decode cX3_count 69 = .ok (.getfield 20, 3) := by decide +kernel
theorem dX3_count_72 : decode cX3_count 72 = .ok (.getfield 86, 3) := by decide +kernel
theorem dX3_count_75 : decode cX3_count 75 = .ok (.ireturn, 1) := by decide +kernel
theorem dX3_count_76 : decode cX3_count 76 = .ok (.aload_n 0, 1) := by decide +kernel
theorem dX3_count_77 : decode cX3_count 77 = .ok (.getfield 12, 3) := by decide +kernel
theorem dX3_count_80 : decode cX3_count 80 = .ok (.invokevirtual 89, 3) := by decide +kernel
theorem dX3_count_83 : decode cX3_count 83 = .ok (.ireturn, 1) := by decide +kernel
theorem dX3_count_84 : decode cX3_count 84 = .ok (.aload_n 0, 1) := by decide +kernel
theorem dX3_count_85 : decode cX3_count 85 = .ok (.getfield 20, 3) := by decide +kernel
theorem dX3_count_88 : decode cX3_count 88 = .ok (.getfield 92, 3) := by decide +kernel
theorem dX3_count_91 : decode cX3_count 91 = .ok (.ireturn, 1) := by decide +kernel
theorem dX3_count_92 : decode cX3_count 92 = .ok (.iconst (-1), 1) := by decide +kernel
theorem dX3_count_93 : decode cX3_count 93 = .ok (.ireturn, 1) := by decide +kernel
set_option maxRecDepth 20000 in
theorem ggX3_begins_X3_requireHalf : GoodIn wsX3_begins wsX3_requireHalf := goodIn_ca (goodIn_r _ [8, 9, 10, 1, 11, 12, 13, 14, 15, 16, 17, 18, 19, 20, 21, 22, 23, 24] (by decide +kernel) (by decide +kernel)) (goodIn_sub (fun _ h => List.mem_cons_of_mem _ (List.mem_append_right _ h)) (by decide +kernel))
set_option maxRecDepth 20000 in
theorem gX3_begins_X3_requireHalf : GoodIn wsX3_begins (wsV RX3 93 RX3 yX3_requireHalf wsX3_requireHalf) := goodIn_app (goodIn_of _ (by decide +kernel)) ggX3_begins_X3_requireHalf
theorem dX3_begins_0 : decode cX3_begins 0 = .ok (.aload_n 0, 1) := by decide +kernel
theorem dX3_begins_1 : decode cX3_begins 1 = .ok (.iload_n 1, 1) := by decide +kernel
theorem dX3_begins_2 : decode cX3_begins 2 = .ok (.invokevirtual 93, 3) := by decide +kernel
theorem dX3_begins_5 : decode cX3_begins 5 = .ok (.iload_n 2, 1) := by decide +kernel
theorem dX3_begins_6 : decode cX3_begins 6 = .ok (.ifCond .eq 15, 3) := by decide +kernel
theorem dX3_begins_9 : decode cX3_begins 9 = .ok (.aload_n 0, 1) := by decide +kernel
theorem dX3_begins_10 : decode cX3_begins 10 = .ok (.getfield 27, 3) := by decide +kernel
theorem dX3_begins_13 : decode cX3_begins 13 = .ok (.getfield 96, 3) := by decide +kernel
theorem dX3_begins_16 : decode cX3_begins 16 = .ok (.iload_n 1, 1) := by decide +kernel
theorem dX3_begins_17 : decode cX3_begins 17 = .ok (.iaload, 1) := by decide +kernel
theorem dX3_begins_18 : decode cX3_begins 18 = .ok (.goto 12, 3) := by decide +kernel
theorem dX3_begins_21 : decode cX3_begins 21 = .ok (.aload_n 0, 1) := by decide +kernel
theorem dX3_begins_22 : decode cX3_begins 22 = .ok (.getfield 27, 3) := by decide +kernel
theorem dX3_begins_25 : decode cX3_begins 25 = .ok (.getfield 100, 3) := by decide +kernel
theorem dX3_begins_28 : decode cX3_begins 28 = .ok (.iload_n 1, 1) := by decide +kernel
theorem dX3_begins_29 : decode cX3_begins 29 = .ok (.iaload, 1) := by decide +kernel
theorem dX3_begins_30 : decode cX3_begins 30 = .ok (.ireturn, 1) := by decide +kernel
set_option maxRecDepth 20000 in
theorem ggX3_next_X3_requireHalf : GoodIn wsX3_next wsX3_requireHalf := goodIn_ca (goodIn_r _ [7, 8, 9, 10, 11, 12, 13, 14, 15, 16, 159, 160, 161, 162, 174, 175, 176, 177] (by decide +kernel) (by decide +kernel)) (goodIn_sub (fun _ h => List.mem_cons_of_mem _ (List.mem_append_right _ h)) (by decide +kernel))
set_option maxRecDepth 20000 in
theorem gX3_next_X3_requireHalf : GoodIn wsX3_next (wsV RX3 93 RX3 yX3_requireHalf wsX3_requireHalf) := goodIn_app (goodIn_of _ (by decide +kernel)) ggX3_next_X3_requireHalf
set_option maxRecDepth 20000 in
theorem ggX3_next_X3_refresh : GoodIn wsX3_next wsX3_refresh := goodIn_r _ [20, 21, 1, 22, 23, 24, 25, 26, 27, 28, 29, 30, 31, 32, 33, 34, 35, 36, 37, 38, 39, 40, 14, 41, 16, 42, 43, 44, 45, 46, 47, 48, 49, 50, 51, 52, 53, 54, 55, 56, 57, 58, 59, 60, 61, 62, 63, 64, 65, 66, 67, 68, 69, 70, 71, 72, 73, 74, 75, 76, 77, 78, 79, 80, 81, 82, 83, 84, 85, 86, 87, 88, 89, 90, 91, 92, 93, 94, 95, 96, 97, 98, 99, 100, 101, 102, 103, 104, 105, 106, 107, 108, 109, 110, 111, 112, 113, 114, 115, 116, 117, 118, 119, 120, 121, 122, 123, 124, 125, 126, 127, 128, 129, 130, 131, 132, 133, 134, 135, 136, 137, 138, 139, 140, 141, 142, 143, 144, 145, 146, 147, 148, 149, 150, 151, 152, 153, 154, 155, 156, 157, 158, 159, 160, 161, 162, 163, 164, 165, 166, 167, 168, 169, 170, 171, 172, 173, 174, 175, 176, 177, 178, 179, 180, 181, 182, 183, 184, 185] (by decide +kernel) (by decide +kernel)
set_option maxRecDepth 20000 in
theorem gX3_next_X3_refresh : GoodIn wsX3_next (wsV RX3 79 RX3 yX3_refresh wsX3_refresh) := goodIn_app (goodIn_of _ (by decide +kernel)) ggX3_next_X3_refresh
theorem dX3_next_0 : decode cX3_next 0 = .ok (.aload_n 0, 1) := by decide +kernel
theorem dX3_next_1 : decode cX3_next 1 = .ok (.iload_n 1, 1) := by decide +kernel
theorem dX3_next_2 : decode cX3_next 2 = .ok (.invokevirtual 93, 3) := by decide +kernel
theorem dX3_next_5 : decode cX3_next 5 = .ok (.aload_n 0, 1) := by decide +kernel
theorem dX3_next_6 : decode cX3_next 6 = .ok (.invokevirtual 79, 3) := by decide +kernel
theorem dX3_next_9 : decode cX3_next 9 = .ok (.aload_n 0, 1) := by decide +kernel
theorem dX3_next_10 : decode cX3_next 10 = .ok (.getfield 20, 3) := by decide +kernel
theorem dX3_next_13 : decode cX3_next 13 = .ok (.getfield 103, 3) := by decide +kernel
theorem dX3_next_16 : decode cX3_next 16 = .ok (.iload_n 1, 1) := by decide +kernel
theorem dX3_next_17 : decode cX3_next 17 = .ok (.iaload, 1) := by decide +kernel
theorem dX3_next_18 : decode cX3_next 18 = .ok (.ireturn, 1) := by decide +kernel
set_option maxRecDepth 20000 in
theorem ggX3_face_X3_requireHalf : GoodIn wsX3_face wsX3_requireHalf := goodIn_ca (goodIn_r _ [7, 8, 9, 10, 11, 12, 13, 14, 15, 16, 159, 160, 161, 162, 171, 172, 173, 174] (by decide +kernel) (by decide +kernel)) (goodIn_sub (fun _ h => List.mem_cons_of_mem _ (List.mem_append_right _ h)) (by decide +kernel))
set_option maxRecDepth 20000 in
theorem gX3_face_X3_requireHalf : GoodIn wsX3_face (wsV RX3 93 RX3 yX3_requireHalf wsX3_requireHalf) := goodIn_app (goodIn_of _ (by decide +kernel)) ggX3_face_X3_requireHalf
set_option maxRecDepth 20000 in
theorem ggX3_face_X3_refresh : GoodIn wsX3_face wsX3_refresh := goodIn_r _ [20, 21, 22, 1, 23, 24, 25, 26, 27, 28, 29, 30, 31, 32, 33, 34, 35, 36, 37, 38, 39, 40, 14, 41, 16, 42, 43, 44, 45, 46, 47, 48, 49, 50, 51, 52, 53, 54, 55, 56, 57, 58, 59, 60, 61, 62, 63, 64, 65, 66, 67, 68, 69, 70, 71, 72, 73, 74, 75, 76, 77, 78, 79, 80, 81, 82, 83, 84, 85, 86, 87, 88, 89, 90, 91, 92, 93, 94, 95, 96, 97, 98, 99, 100, 101, 102, 103, 104, 105, 106, 107, 108, 109, 110, 111, 112, 113, 114, 115, 116, 117, 118, 119, 120, 121, 122, 123, 124, 125, 126, 127, 128, 129, 130, 131, 132, 133, 134, 135, 136, 137, 138, 139, 140, 141, 142, 143, 144, 145, 146, 147, 148, 149, 150, 151, 152, 153, 154, 155, 156, 157, 158, 159, 160, 161, 162, 175, 176, 177, 178, 179, 180, 181, 182, 183, 184, 185, 171, 172, 173, 174, 163, 164, 165, 166, 167, 168, 169, 170] (by decide +kernel) (by decide +kernel)
set_option maxRecDepth 20000 in
theorem gX3_face_X3_refresh : GoodIn wsX3_face (wsV RX3 79 RX3 yX3_refresh wsX3_refresh) := goodIn_app (goodIn_of _ (by decide +kernel)) ggX3_face_X3_refresh
theorem dX3_face_0 : decode cX3_face 0 = .ok (.aload_n 0, 1) := by decide +kernel
theorem dX3_face_1 : decode cX3_face 1 = .ok (.iload_n 1, 1) := by decide +kernel
theorem dX3_face_2 : decode cX3_face 2 = .ok (.invokevirtual 93, 3) := by decide +kernel
theorem dX3_face_5 : decode cX3_face 5 = .ok (.aload_n 0, 1) := by decide +kernel
theorem dX3_face_6 : decode cX3_face 6 = .ok (.invokevirtual 79, 3) := by decide +kernel
theorem dX3_face_9 : decode cX3_face 9 = .ok (.aload_n 0, 1) := by decide +kernel
theorem dX3_face_10 : decode cX3_face 10 = .ok (.getfield 12, 3) := by decide +kernel
theorem dX3_face_13 : decode cX3_face 13 = .ok (.getfield 106, 3) := by decide +kernel
theorem dX3_face_16 : decode cX3_face 16 = .ok (.iload_n 1, 1) := by decide +kernel
theorem dX3_face_17 : decode cX3_face 17 = .ok (.iaload, 1) := by decide +kernel
theorem dX3_face_18 : decode cX3_face 18 = .ok (.ireturn, 1) := by decide +kernel
set_option maxRecDepth 20000 in
theorem ggX3_piece_X3_requireHalf : GoodIn wsX3_piece wsX3_requireHalf := goodIn_ca (goodIn_r _ [7, 8, 9, 10, 11, 12, 13, 14, 15, 16, 159, 160, 161, 162, 174, 175, 176, 177] (by decide +kernel) (by decide +kernel)) (goodIn_sub (fun _ h => List.mem_cons_of_mem _ (List.mem_append_right _ h)) (by decide +kernel))
set_option maxRecDepth 20000 in
theorem gX3_piece_X3_requireHalf : GoodIn wsX3_piece (wsV RX3 93 RX3 yX3_requireHalf wsX3_requireHalf) := goodIn_app (goodIn_of _ (by decide +kernel)) ggX3_piece_X3_requireHalf
set_option maxRecDepth 20000 in
theorem ggX3_piece_X3_refresh : GoodIn wsX3_piece wsX3_refresh := goodIn_r _ [20, 21, 1, 22, 23, 24, 25, 26, 27, 28, 29, 30, 31, 32, 33, 34, 35, 36, 37, 38, 39, 40, 14, 41, 16, 42, 43, 44, 45, 46, 47, 48, 49, 50, 51, 52, 53, 54, 55, 56, 57, 58, 59, 60, 61, 62, 63, 64, 65, 66, 67, 68, 69, 70, 71, 72, 73, 74, 75, 76, 77, 78, 79, 80, 81, 82, 83, 84, 85, 86, 87, 88, 89, 90, 91, 92, 93, 94, 95, 96, 97, 98, 99, 100, 101, 102, 103, 104, 105, 106, 107, 108, 109, 110, 111, 112, 113, 114, 115, 116, 117, 118, 119, 120, 121, 122, 123, 124, 125, 126, 127, 128, 129, 130, 131, 132, 133, 134, 135, 136, 137, 138, 139, 140, 141, 142, 143, 144, 145, 146, 147, 148, 149, 150, 151, 152, 153, 154, 155, 156, 157, 158, 159, 160, 161, 162, 163, 164, 165, 166, 167, 168, 169, 170, 171, 172, 173, 174, 175, 176, 177, 178, 179, 180, 181, 182, 183, 184, 185] (by decide +kernel) (by decide +kernel)
set_option maxRecDepth 20000 in
theorem gX3_piece_X3_refresh : GoodIn wsX3_piece (wsV RX3 79 RX3 yX3_refresh wsX3_refresh) := goodIn_app (goodIn_of _ (by decide +kernel)) ggX3_piece_X3_refresh
theorem dX3_piece_0 : decode cX3_piece 0 = .ok (.aload_n 0, 1) := by decide +kernel
theorem dX3_piece_1 : decode cX3_piece 1 = .ok (.iload_n 1, 1) := by decide +kernel
theorem dX3_piece_2 : decode cX3_piece 2 = .ok (.invokevirtual 93, 3) := by decide +kernel
theorem dX3_piece_5 : decode cX3_piece 5 = .ok (.aload_n 0, 1) := by decide +kernel
theorem dX3_piece_6 : decode cX3_piece 6 = .ok (.invokevirtual 79, 3) := by decide +kernel
theorem dX3_piece_9 : decode cX3_piece 9 = .ok (.aload_n 0, 1) := by decide +kernel
theorem dX3_piece_10 : decode cX3_piece 10 = .ok (.getfield 20, 3) := by decide +kernel
theorem dX3_piece_13 : decode cX3_piece 13 = .ok (.getfield 109, 3) := by decide +kernel
theorem dX3_piece_16 : decode cX3_piece 16 = .ok (.iload_n 1, 1) := by decide +kernel
theorem dX3_piece_17 : decode cX3_piece 17 = .ok (.iconst 1, 1) := by decide +kernel
theorem dX3_piece_18 : decode cX3_piece 18 = .ok (.ishr, 1) := by decide +kernel
theorem dX3_piece_19 : decode cX3_piece 19 = .ok (.iaload, 1) := by decide +kernel
theorem dX3_piece_20 : decode cX3_piece 20 = .ok (.ireturn, 1) := by decide +kernel
set_option maxRecDepth 20000 in
theorem ggX3_around_X3_refresh : GoodIn wsX3_around wsX3_refresh := goodIn_r _ [11, 12, 3, 5, 13, 14, 15, 16, 17, 18, 19, 20, 21, 22, 23, 24, 25, 26, 27, 28, 29, 30, 31, 32, 33, 34, 35, 36, 37, 38, 39, 40, 41, 42, 43, 44, 45, 46, 47, 48, 49, 50, 51, 52, 53, 54, 55, 56, 57, 58, 59, 60, 61, 62, 63, 64, 65, 66, 67, 68, 69, 70, 71, 72, 73, 74, 75, 76, 77, 78, 79, 80, 81, 82, 83, 84, 85, 86, 87, 88, 89, 90, 91, 92, 93, 94, 95, 96, 97, 98, 99, 100, 101, 102, 103, 104, 105, 106, 107, 108, 109, 110, 111, 112, 113, 114, 115, 116, 117, 118, 119, 120, 121, 122, 123, 124, 125, 126, 127, 128, 129, 130, 131, 132, 133, 134, 135, 136, 137, 138, 139, 140, 141, 142, 143, 144, 145, 146, 147, 148, 149, 150, 151, 152, 153, 154, 155, 156, 157, 158, 159, 160, 161, 162, 163, 164, 165, 174, 175, 176, 177, 166, 167, 168, 169, 170, 171, 172, 173] (by decide +kernel) (by decide +kernel)
set_option maxRecDepth 20000 in
theorem gX3_around_X3_refresh : GoodIn wsX3_around (wsV RX3 79 RX3 yX3_refresh wsX3_refresh) := goodIn_app (goodIn_of _ (by decide +kernel)) ggX3_around_X3_refresh
theorem dX3_around_0 : decode cX3_around 0 = .ok (.aload_n 0, 1) := by decide +kernel
theorem dX3_around_1 : decode cX3_around 1 = .ok (.invokevirtual 79, 3) := by decide +kernel
theorem dX3_around_4 : decode cX3_around 4 = .ok (.iload_n 1, 1) := by decide +kernel
theorem dX3_around_5 : decode cX3_around 5 = .ok (.ifCond .lt 14, 3) := by decide +kernel
theorem dX3_around_8 : decode cX3_around 8 = .ok (.iload_n 1, 1) := by decide +kernel
theorem dX3_around_9 : decode cX3_around 9 = .ok (.aload_n 0, 1) := by decide +kernel
theorem dX3_around_10 : decode cX3_around 10 = .ok (.getfield 20, 3) := by decide +kernel
theorem dX3_around_13 : decode cX3_around 13 = .ok (.getfield 86, 3) := by decide +kernel
theorem dX3_around_16 : decode cX3_around 16 = .ok (.if_icmp .lt 13, 3) := by decide +kernel
theorem dX3_around_19 : decode cX3_around 19 = .ok (.new 112, 3) := by decide +kernel
theorem dX3_around_22 : decode cX3_around 22 = .ok (.dup, 1) := by decide +kernel
theorem dX3_around_23 : decode cX3_around 23 = .ok (.ldc 114, 2) := by decide +kernel
theorem dX3_around_25 : decode cX3_around 25 = .ok (.invokespecial 116, 3) := by decide +kernel
theorem dX3_around_28 : decode cX3_around 28 = .ok (.athrow, 1) := by decide +kernel
theorem dX3_around_29 : decode cX3_around 29 = .ok (.aload_n 0, 1) := by decide +kernel
theorem dX3_around_30 : decode cX3_around 30 = .ok (.getfield 12, 3) := by decide +kernel
theorem dX3_around_33 : decode cX3_around 33 = .ok (.getfield 117, 3) := by decide +kernel
theorem dX3_around_36 : decode cX3_around 36 = .ok (.iload_n 1, 1) := by decide +kernel
theorem dX3_around_37 : decode cX3_around 37 = .ok (.iaload, 1) := by decide +kernel
theorem dX3_around_38 : decode cX3_around 38 = .ok (.ireturn, 1) := by decide +kernel
set_option maxRecDepth 20000 in
theorem ggX3_area_X3_refresh : GoodIn wsX3_area wsX3_refresh := goodIn_r _ [6, 7, 8, 1, 9, 10, 11, 12, 13, 14, 15, 16, 17, 18, 19, 20, 21, 22, 23, 24, 25, 26, 27, 28, 29, 30, 31, 32, 33, 34, 35, 36, 37, 38, 39, 40, 41, 42, 43, 44, 45, 46, 47, 48, 49, 50, 51, 52, 53, 54, 55, 56, 57, 58, 59, 60, 61, 62, 63, 64, 65, 66, 67, 68, 69, 70, 71, 72, 73, 74, 75, 76, 77, 78, 79, 80, 81, 82, 83, 84, 85, 86, 87, 88, 89, 90, 91, 92, 93, 94, 95, 96, 97, 98, 99, 100, 101, 102, 103, 104, 105, 106, 107, 108, 109, 110, 111, 112, 113, 114, 115, 116, 117, 118, 119, 120, 121, 122, 123, 124, 125, 126, 127, 128, 129, 130, 131, 132, 133, 134, 135, 136, 137, 138, 139, 140, 141, 142, 143, 144, 145, 146, 158, 159, 160, 161, 162, 163, 164, 165, 166, 167, 168, 169, 170, 171, 172, 173, 174, 175, 176, 177, 178, 179, 180, 181, 182, 183, 184] (by decide +kernel) (by decide +kernel)
set_option maxRecDepth 20000 in
theorem gX3_area_X3_refresh : GoodIn wsX3_area (wsV RX3 79 RX3 yX3_refresh wsX3_refresh) := goodIn_app (goodIn_of _ (by decide +kernel)) ggX3_area_X3_refresh
set_option maxRecDepth 20000 in
theorem ggX3_area_X3_requireFace : GoodIn wsX3_area wsX3_requireFace := goodIn_ca (goodIn_r _ [150, 151, 152, 1, 153, 158, 159, 160, 161, 177, 178, 179, 180, 181, 182, 183, 184] (by decide +kernel) (by decide +kernel)) (goodIn_sub (fun _ h => List.mem_cons_of_mem _ (List.mem_append_right _ h)) (by decide +kernel))
set_option maxRecDepth 20000 in
theorem gX3_area_X3_requireFace : GoodIn wsX3_area (wsV RX3 120 RX3 yX3_requireFace wsX3_requireFace) := goodIn_app (goodIn_of _ (by decide +kernel)) ggX3_area_X3_requireFace
set_option maxRecDepth 20000 in
theorem ggX3_area_X0_twiceArea : GoodIn wsX3_area wsX0_twiceArea := goodIn_r _ [157, 94, 95, 98, 99, 104, 177, 178, 179, 180, 181, 182, 183, 184, 162, 163, 164, 165, 166, 167, 168, 169, 170, 171, 172] (by decide +kernel) (by decide +kernel)
set_option maxRecDepth 20000 in
theorem gX3_area_X0_twiceArea : GoodIn wsX3_area (wsV RX3 123 RX0 yX0_twiceArea wsX0_twiceArea) := goodIn_app (goodIn_of _ (by decide +kernel)) ggX3_area_X0_twiceArea
theorem dX3_area_0 : decode cX3_area 0 = .ok (.aload_n 0, 1) := by decide +kernel
theorem dX3_area_1 : decode cX3_area 1 = .ok (.invokevirtual 79, 3) := by decide +kernel
theorem dX3_area_4 : decode cX3_area 4 = .ok (.aload_n 0, 1) := by decide +kernel
theorem dX3_area_5 : decode cX3_area 5 = .ok (.iload_n 1, 1) := by decide +kernel
theorem dX3_area_6 : decode cX3_area 6 = .ok (.invokevirtual 120, 3) := by decide +kernel
theorem dX3_area_9 : decode cX3_area 9 = .ok (.iload_n 1, 1) := by decide +kernel
theorem dX3_area_10 : decode cX3_area 10 = .ok (.ifCond .ne 7, 3) := by decide +kernel
theorem dX3_area_13 : decode cX3_area 13 = .ok (.iconst 0, 1) := by decide +kernel
theorem dX3_area_14 : decode cX3_area 14 = .ok (.goto 12, 3) := by decide +kernel
theorem dX3_area_17 : decode cX3_area 17 = .ok (.aload_n 0, 1) := by decide +kernel
theorem dX3_area_18 : decode cX3_area 18 = .ok (.getfield 12, 3) := by decide +kernel
theorem dX3_area_21 : decode cX3_area 21 = .ok (.iload_n 1, 1) := by decide +kernel
theorem dX3_area_22 : decode cX3_area 22 = .ok (.invokevirtual 123, 3) := by decide +kernel
theorem dX3_area_25 : decode cX3_area 25 = .ok (.l2i, 1) := by decide +kernel
theorem dX3_area_26 : decode cX3_area 26 = .ok (.ireturn, 1) := by decide +kernel
set_option maxRecDepth 20000 in
theorem ggX3_border_X3_refresh : GoodIn wsX3_border wsX3_refresh := goodIn_r _ [6, 7, 8, 1, 9, 10, 11, 12, 13, 14, 15, 16, 17, 18, 19, 20, 21, 22, 23, 24, 25, 26, 27, 28, 29, 30, 31, 32, 33, 34, 35, 36, 37, 38, 39, 40, 41, 42, 43, 44, 45, 46, 47, 48, 49, 50, 51, 52, 53, 54, 55, 56, 57, 58, 59, 60, 61, 62, 63, 64, 65, 66, 67, 68, 69, 70, 71, 72, 73, 74, 75, 76, 77, 78, 79, 80, 81, 82, 83, 84, 85, 86, 87, 88, 89, 90, 91, 92, 93, 94, 95, 96, 97, 98, 99, 100, 101, 102, 103, 104, 105, 106, 107, 108, 109, 110, 111, 112, 113, 114, 115, 116, 117, 118, 119, 120, 121, 122, 123, 124, 125, 126, 127, 128, 129, 130, 131, 132, 133, 134, 135, 136, 137, 138, 139, 140, 141, 142, 143, 144, 145, 146, 171, 172, 173, 174, 175, 176, 177, 178, 179, 180, 181, 182, 183, 184, 185, 186, 187, 188, 189, 190, 191, 192, 193, 194, 195, 196, 197] (by decide +kernel) (by decide +kernel)
set_option maxRecDepth 20000 in
theorem gX3_border_X3_refresh : GoodIn wsX3_border (wsV RX3 79 RX3 yX3_refresh wsX3_refresh) := goodIn_app (goodIn_of _ (by decide +kernel)) ggX3_border_X3_refresh
set_option maxRecDepth 20000 in
theorem ggX3_border_X3_requireFace : GoodIn wsX3_border wsX3_requireFace := goodIn_ca (goodIn_r _ [150, 151, 152, 1, 153, 171, 172, 173, 174, 190, 191, 192, 193, 194, 195, 196, 197] (by decide +kernel) (by decide +kernel)) (goodIn_sub (fun _ h => List.mem_cons_of_mem _ (List.mem_append_right _ h)) (by decide +kernel))
set_option maxRecDepth 20000 in
theorem gX3_border_X3_requireFace : GoodIn wsX3_border (wsV RX3 120 RX3 yX3_requireFace wsX3_requireFace) := goodIn_app (goodIn_of _ (by decide +kernel)) ggX3_border_X3_requireFace
set_option maxRecDepth 20000 in
theorem ggX3_border_X0_roundsOf : GoodIn wsX3_border wsX0_roundsOf := goodIn_r _ [157, 94, 95, 98, 99, 190, 191, 192, 193, 194, 195, 196, 197, 175, 176, 177, 178, 179, 180, 181, 182, 183, 184, 185] (by decide +kernel) (by decide +kernel)
set_option maxRecDepth 20000 in
theorem gX3_border_X0_roundsOf : GoodIn wsX3_border (wsV RX3 127 RX0 yX0_roundsOf wsX0_roundsOf) := goodIn_app (goodIn_of _ (by decide +kernel)) ggX3_border_X0_roundsOf
set_option maxRecDepth 20000 in
theorem ggX3_border_X0_halvesOf : GoodIn wsX3_border wsX0_halvesOf := goodIn_r _ [161, 105, 140, 98, 190, 191, 192, 193, 194, 195, 196, 197, 186, 187, 188, 189] (by decide +kernel) (by decide +kernel)
set_option maxRecDepth 20000 in
theorem gX3_border_X0_halvesOf : GoodIn wsX3_border (wsV RX3 131 RX0 yX0_halvesOf wsX0_halvesOf) := goodIn_app (goodIn_of _ (by decide +kernel)) ggX3_border_X0_halvesOf
set_option maxRecDepth 20000 in
theorem ggX3_border_X0_leastHalfOf : GoodIn wsX3_border wsX0_leastHalfOf := goodIn_r _ [165, 105, 140, 98, 190, 191, 192, 193, 194, 195, 196, 197, 186, 187, 188, 189] (by decide +kernel) (by decide +kernel)
set_option maxRecDepth 20000 in
theorem gX3_border_X0_leastHalfOf : GoodIn wsX3_border (wsV RX3 134 RX0 yX0_leastHalfOf wsX0_leastHalfOf) := goodIn_app (goodIn_of _ (by decide +kernel)) ggX3_border_X0_leastHalfOf
set_option maxRecDepth 20000 in
theorem ggX3_border_X0_piecesIn : GoodIn wsX3_border wsX0_piecesIn := goodIn_r _ [169, 94, 170, 97, 190, 191, 192, 193, 194, 195, 196, 197, 175, 176, 177, 178, 179, 180, 181, 182, 183, 184, 185] (by decide +kernel) (by decide +kernel)
set_option maxRecDepth 20000 in
theorem gX3_border_X0_piecesIn : GoodIn wsX3_border (wsV RX3 137 RX0 yX0_piecesIn wsX0_piecesIn) := goodIn_app (goodIn_of _ (by decide +kernel)) ggX3_border_X0_piecesIn
theorem dX3_border_0 : decode cX3_border 0 = .ok (.aload_n 0, 1) := by decide +kernel
theorem dX3_border_1 : decode cX3_border 1 = .ok (.invokevirtual 79, 3) := by decide +kernel
theorem dX3_border_4 : decode cX3_border 4 = .ok (.aload_n 0, 1) := by decide +kernel
theorem dX3_border_5 : decode cX3_border 5 = .ok (.iload_n 1, 1) := by decide +kernel
theorem dX3_border_6 : decode cX3_border 6 = .ok (.invokevirtual 120, 3) := by decide +kernel
theorem dX3_border_9 : decode cX3_border 9 = .ok (.iload_n 2, 1) := by decide +kernel
theorem dX3_border_10 : decode cX3_border 10 = .ok (.tableswitch 66 0 3 #[30, 39, 48, 57], 30) := by decide +kernel
theorem dX3_border_40 : decode cX3_border 40 = .ok (.aload_n 0, 1) := by decide +kernel
theorem dX3_border_41 : decode cX3_border 41 = .ok (.getfield 12, 3) := by decide +kernel
theorem dX3_border_44 : decode cX3_border 44 = .ok (.iload_n 1, 1) := by decide +kernel
theorem dX3_border_45 : decode cX3_border 45 = .ok (.invokevirtual 127, 3) := by decide +kernel
theorem dX3_border_48 : decode cX3_border 48 = .ok (.ireturn, 1) := by decide +kernel
theorem dX3_border_49 : decode cX3_border 49 = .ok (.aload_n 0, 1) := by decide +kernel
theorem dX3_border_50 : decode cX3_border 50 = .ok (.getfield 12, 3) := by decide +kernel
theorem dX3_border_53 : decode cX3_border 53 = .ok (.iload_n 1, 1) := by decide +kernel
theorem dX3_border_54 : decode cX3_border 54 = .ok (.invokevirtual 131, 3) := by decide +kernel
theorem dX3_border_57 : decode cX3_border 57 = .ok (.ireturn, 1) := by decide +kernel
theorem dX3_border_58 : decode cX3_border 58 = .ok (.aload_n 0, 1) := by decide +kernel
theorem dX3_border_59 : decode cX3_border 59 = .ok (.getfield 12, 3) := by decide +kernel
theorem dX3_border_62 : decode cX3_border 62 = .ok (.iload_n 1, 1) := by decide +kernel
theorem dX3_border_63 : decode cX3_border 63 = .ok (.invokevirtual 134, 3) := by decide +kernel
theorem dX3_border_66 : decode cX3_border 66 = .ok (.ireturn, 1) := by decide +kernel
theorem dX3_border_67 : decode cX3_border 67 = .ok (.aload_n 0, 1) := by decide +kernel
theorem dX3_border_68 : decode cX3_border 68 = .ok (.getfield 12, 3) := by decide +kernel
theorem dX3_border_71 : decode cX3_border 71 = .ok (.iload_n 1, 1) := by decide +kernel
theorem dX3_border_72 : decode cX3_border 72 = .ok (.invokevirtual 137, 3) := by decide +kernel
theorem dX3_border_75 : decode cX3_border 75 = .ok (.ireturn, 1) := by decide +kernel
theorem dX3_border_76 : decode cX3_border 76 = .ok (.iconst (-1), 1) := by decide +kernel
theorem dX3_border_77 : decode cX3_border 77 = .ok (.ireturn, 1) := by decide +kernel
set_option maxRecDepth 20000 in
theorem ggX3_locate_X3_requirePlace : GoodIn wsX3_locate wsX3_requirePlace := goodIn_ca (goodIn_r _ [7, 8, 9] (by decide +kernel) (by decide +kernel)) (goodIn_sub (fun _ h => List.mem_cons_of_mem _ (List.mem_append_right _ h)) (by decide +kernel))
set_option maxRecDepth 20000 in
theorem gX3_locate_X3_requirePlace : GoodIn wsX3_locate (va_wsS RX3 32 yX3_requirePlace wsX3_requirePlace) := goodIn_app (goodIn_of _ (by decide +kernel)) ggX3_locate_X3_requirePlace
set_option maxRecDepth 20000 in
theorem ggX3_locate_X3_refresh : GoodIn wsX3_locate wsX3_refresh := goodIn_r _ [13, 14, 3, 2, 15, 16, 17, 18, 19, 20, 21, 22, 23, 24, 25, 26, 27, 28, 29, 30, 31, 32, 33, 34, 35, 36, 37, 38, 39, 40, 41, 42, 43, 44, 45, 46, 47, 48, 49, 50, 51, 52, 53, 54, 55, 56, 57, 58, 59, 60, 61, 62, 63, 64, 65, 66, 67, 68, 69, 70, 71, 72, 73, 74, 75, 76, 77, 78, 79, 80, 81, 82, 83, 84, 85, 86, 87, 88, 89, 90, 91, 92, 93, 94, 95, 96, 97, 98, 99, 100, 101, 102, 103, 104, 105, 106, 107, 108, 109, 110, 111, 112, 113, 114, 115, 116, 117, 118, 119, 120, 121, 122, 123, 124, 125, 126, 127, 128, 129, 130, 131, 132, 133, 134, 135, 136, 137, 138, 139, 140, 141, 142, 143, 144, 145, 146, 147, 148, 149, 150, 151, 152, 164, 165, 166, 167, 168, 169, 170, 171, 172, 173, 174, 175, 176, 177, 178, 179, 180, 181, 182, 183, 184, 185, 186, 187, 188, 189, 190] (by decide +kernel) (by decide +kernel)
set_option maxRecDepth 20000 in
theorem gX3_locate_X3_refresh : GoodIn wsX3_locate (wsV RX3 79 RX3 yX3_refresh wsX3_refresh) := goodIn_app (goodIn_of _ (by decide +kernel)) ggX3_locate_X3_refresh
set_option maxRecDepth 20000 in
theorem ggX3_locate_X2_leastHalfAt : GoodIn wsX3_locate wsX2_leastHalfAt := goodIn_r _ [34, 35, 36, 37, 179, 180, 181, 182] (by decide +kernel) (by decide +kernel)
set_option maxRecDepth 20000 in
theorem gX3_locate_X2_leastHalfAt : GoodIn wsX3_locate (wsV RX3 140 RX2 yX2_leastHalfAt wsX2_leastHalfAt) := goodIn_app (goodIn_of _ (by decide +kernel)) ggX3_locate_X2_leastHalfAt
set_option maxRecDepth 20000 in
theorem ggX3_locate_X2_segmentThrough : GoodIn wsX3_locate wsX2_segmentThrough := goodIn_r _ [157, 35, 158, 159, 160, 33, 161, 36, 37, 135, 136, 137, 138, 179, 180, 181, 182] (by decide +kernel) (by decide +kernel)
set_option maxRecDepth 20000 in
theorem gX3_locate_X2_segmentThrough : GoodIn wsX3_locate (wsV RX3 144 RX2 yX2_segmentThrough wsX2_segmentThrough) := goodIn_app (goodIn_of _ (by decide +kernel)) ggX3_locate_X2_segmentThrough
set_option maxRecDepth 20000 in
theorem ggX3_locate_X1_enclosing : GoodIn wsX3_locate wsX1_enclosing := goodIn_r _ [121, 80, 122, 90, 123, 124, 125, 18, 126, 21, 22, 79, 81, 82, 83, 84, 127, 128, 129, 33, 130, 36, 131, 132, 133, 134, 135, 136, 137, 138, 37, 139, 115, 116, 117, 74, 89, 168, 169, 170, 171, 172, 173, 174, 175, 176, 177, 178, 179, 180, 181, 182] (by decide +kernel) (by decide +kernel)
set_option maxRecDepth 20000 in
theorem gX3_locate_X1_enclosing : GoodIn wsX3_locate (wsV RX3 147 RX1 yX1_enclosing wsX1_enclosing) := goodIn_app (goodIn_of _ (by decide +kernel)) ggX3_locate_X1_enclosing
set_option maxRecDepth 20000 in
theorem ggX3_locate_X0_faceWithin : GoodIn wsX3_locate wsX0_faceWithin := goodIn_r _ [152, 144, 183, 184, 185, 186, 187, 188, 189, 190] (by decide +kernel) (by decide +kernel)
set_option maxRecDepth 20000 in
theorem gX3_locate_X0_faceWithin : GoodIn wsX3_locate (wsV RX3 151 RX0 yX0_faceWithin wsX0_faceWithin) := goodIn_app (goodIn_of _ (by decide +kernel)) ggX3_locate_X0_faceWithin
theorem dX3_locate_0 : decode cX3_locate 0 = .ok (.iload_n 1, 1) := by decide +kernel
theorem dX3_locate_1 : decode cX3_locate 1 = .ok (.iload_n 2, 1) := by decide +kernel
theorem dX3_locate_2 : decode cX3_locate 2 = .ok (.invokestatic 32, 3) := by decide +kernel
theorem dX3_locate_5 : decode cX3_locate 5 = .ok (.aload_n 0, 1) := by decide +kernel
theorem dX3_locate_6 : decode cX3_locate 6 = .ok (.invokevirtual 79, 3) := by decide +kernel
theorem dX3_locate_9 : decode cX3_locate 9 = .ok (.aload_n 0, 1) := by decide +kernel
theorem dX3_locate_10 : decode cX3_locate 10 = .ok (.getfield 27, 3) := by decide +kernel
theorem dX3_locate_13 : decode cX3_locate 13 = .ok (.iload_n 1, 1) := by decide +kernel
theorem dX3_locate_14 : decode cX3_locate 14 = .ok (.iload_n 2, 1) := by decide +kernel
theorem dX3_locate_15 : decode cX3_locate 15 = .ok (.invokevirtual 140, 3) := by decide +kernel
theorem dX3_locate_18 : decode cX3_locate 18 = .ok (.istore_n 3, 1) := by decide +kernel
theorem dX3_locate_19 : decode cX3_locate 19 = .ok (.iload_n 3, 1) := by decide +kernel
theorem dX3_locate_20 : decode cX3_locate 20 = .ok (.iconst (-1), 1) := by decide +kernel
theorem dX3_locate_21 : decode cX3_locate 21 = .ok (.if_icmp .eq 8, 3) := by decide +kernel
theorem dX3_locate_24 : decode cX3_locate 24 = .ok (.bipush (-100), 2) := by decide +kernel
theorem dX3_locate_26 : decode cX3_locate 26 = .ok (.iload_n 3, 1) := by decide +kernel
theorem dX3_locate_27 : decode cX3_locate 27 = .ok (.isub, 1) := by decide +kernel
theorem dX3_locate_28 : decode cX3_locate 28 = .ok (.ireturn, 1) := by decide +kernel
theorem dX3_locate_29 : decode cX3_locate 29 = .ok (.aload_n 0, 1) := by decide +kernel
theorem dX3_locate_30 : decode cX3_locate 30 = .ok (.getfield 27, 3) := by decide +kernel
theorem dX3_locate_33 : decode cX3_locate 33 = .ok (.iload_n 1, 1) := by decide +kernel
theorem dX3_locate_34 : decode cX3_locate 34 = .ok (.iload_n 2, 1) := by decide +kernel
theorem dX3_locate_35 : decode cX3_locate 35 = .ok (.invokevirtual 144, 3) := by decide +kernel
theorem dX3_locate_38 : decode cX3_locate 38 = .ok (.istore 4, 2) := by decide +kernel
theorem dX3_locate_40 : decode cX3_locate 40 = .ok (.iload 4, 2) := by decide +kernel
theorem dX3_locate_42 : decode cX3_locate 42 = .ok (.iconst (-1), 1) := by decide +kernel
theorem dX3_locate_43 : decode cX3_locate 43 = .ok (.if_icmp .eq 9, 3) := by decide +kernel
theorem dX3_locate_46 : decode cX3_locate 46 = .ok (.bipush (-2), 2) := by decide +kernel
theorem dX3_locate_48 : decode cX3_locate 48 = .ok (.iload 4, 2) := by decide +kernel
theorem dX3_locate_50 : decode cX3_locate 50 = .ok (.isub, 1) := by decide +kernel
theorem dX3_locate_51 : decode cX3_locate 51 = .ok (.ireturn, 1) := by decide +kernel
theorem dX3_locate_52 : decode cX3_locate 52 = .ok (.aload_n 0, 1) := by decide +kernel
theorem dX3_locate_53 : decode cX3_locate 53 = .ok (.getfield 12, 3) := by decide +kernel
theorem dX3_locate_56 : decode cX3_locate 56 = .ok (.aload_n 0, 1) := by decide +kernel
theorem dX3_locate_57 : decode cX3_locate 57 = .ok (.getfield 20, 3) := by decide +kernel
theorem dX3_locate_60 : decode cX3_locate 60 = .ok (.iload_n 1, 1) := by decide +kernel
theorem dX3_locate_61 : decode cX3_locate 61 = .ok (.iload_n 2, 1) := by decide +kernel
theorem dX3_locate_62 : decode cX3_locate 62 = .ok (.iconst (-1), 1) := by decide +kernel
theorem dX3_locate_63 : decode cX3_locate 63 = .ok (.invokevirtual 147, 3) := by decide +kernel
theorem dX3_locate_66 : decode cX3_locate 66 = .ok (.invokevirtual 151, 3) := by decide +kernel
theorem dX3_locate_69 : decode cX3_locate 69 = .ok (.ireturn, 1) := by decide +kernel
set_option maxRecDepth 20000 in
theorem ggX3_above_X3_requirePlace : GoodIn wsX3_above wsX3_requirePlace := goodIn_ca (goodIn_r _ [5, 6, 7] (by decide +kernel) (by decide +kernel)) (goodIn_sub (fun _ h => List.mem_cons_of_mem _ (List.mem_append_right _ h)) (by decide +kernel))
set_option maxRecDepth 20000 in
theorem gX3_above_X3_requirePlace : GoodIn wsX3_above (va_wsS RX3 32 yX3_requirePlace wsX3_requirePlace) := goodIn_app (goodIn_of _ (by decide +kernel)) ggX3_above_X3_requirePlace
set_option maxRecDepth 20000 in
theorem ggX3_above_X2_firstUpFrom : GoodIn wsX3_above wsX2_firstUpFrom := goodIn_r _ [12, 13, 14, 15, 16, 11, 17, 18, 19, 20, 21, 22, 23, 24, 25, 26, 27, 28, 29, 30, 31, 32, 33, 34, 35, 36, 37, 38, 39, 40, 41, 42, 43, 44, 45, 50, 51, 52, 53] (by decide +kernel) (by decide +kernel)
set_option maxRecDepth 20000 in
theorem gX3_above_X2_firstUpFrom : GoodIn wsX3_above (wsV RX3 154 RX2 yX2_firstUpFrom wsX2_firstUpFrom) := goodIn_app (goodIn_of _ (by decide +kernel)) ggX3_above_X2_firstUpFrom
theorem dX3_above_0 : decode cX3_above 0 = .ok (.iload_n 1, 1) := by decide +kernel
theorem dX3_above_1 : decode cX3_above 1 = .ok (.iload_n 2, 1) := by decide +kernel
theorem dX3_above_2 : decode cX3_above 2 = .ok (.invokestatic 32, 3) := by decide +kernel
theorem dX3_above_5 : decode cX3_above 5 = .ok (.aload_n 0, 1) := by decide +kernel
theorem dX3_above_6 : decode cX3_above 6 = .ok (.getfield 27, 3) := by decide +kernel
theorem dX3_above_9 : decode cX3_above 9 = .ok (.iload_n 1, 1) := by decide +kernel
theorem dX3_above_10 : decode cX3_above 10 = .ok (.iload_n 2, 1) := by decide +kernel
theorem dX3_above_11 : decode cX3_above 11 = .ok (.invokevirtual 154, 3) := by decide +kernel
theorem dX3_above_14 : decode cX3_above 14 = .ok (.ireturn, 1) := by decide +kernel
set_option maxRecDepth 20000 in
theorem ggX3_across_X3_refresh : GoodIn wsX3_across wsX3_refresh := goodIn_r _ [6, 7, 8, 1, 9, 10, 11, 12, 13, 14, 15, 16, 17, 18, 19, 20, 21, 22, 23, 24, 25, 26, 27, 28, 29, 30, 31, 32, 33, 34, 35, 36, 37, 38, 39, 40, 41, 42, 43, 44, 45, 46, 47, 48, 49, 50, 51, 52, 53, 54, 55, 56, 57, 58, 59, 60, 61, 62, 63, 64, 65, 66, 67, 68, 69, 70, 71, 72, 73, 74, 75, 76, 77, 78, 79, 80, 81, 82, 83, 84, 85, 86, 87, 88, 89, 90, 91, 92, 93, 94, 95, 96, 97, 98, 99, 100, 101, 102, 103, 104, 105, 106, 107, 108, 109, 110, 111, 112, 113, 114, 115, 116, 117, 118, 119, 120, 121, 122, 123, 124, 125, 126, 127, 128, 129, 130, 131, 132, 133, 134, 135, 136, 137, 138, 139, 140, 141, 142, 143, 144, 145, 146, 163, 164, 165, 166, 167, 168, 169, 170, 171, 172, 173, 174, 175, 176, 177, 178, 179, 180, 181, 182, 183, 184, 185, 186, 187, 188, 189] (by decide +kernel) (by decide +kernel)
set_option maxRecDepth 20000 in
theorem gX3_across_X3_refresh : GoodIn wsX3_across (wsV RX3 79 RX3 yX3_refresh wsX3_refresh) := goodIn_app (goodIn_of _ (by decide +kernel)) ggX3_across_X3_refresh
set_option maxRecDepth 20000 in
theorem ggX3_across_X3_requireFace : GoodIn wsX3_across wsX3_requireFace := goodIn_ca (goodIn_r _ [150, 151, 152, 1, 153, 163, 164, 165, 166, 182, 183, 184, 185, 186, 187, 188, 189] (by decide +kernel) (by decide +kernel)) (goodIn_sub (fun _ h => List.mem_cons_of_mem _ (List.mem_append_right _ h)) (by decide +kernel))
set_option maxRecDepth 20000 in
theorem gX3_across_X3_requireFace : GoodIn wsX3_across (wsV RX3 120 RX3 yX3_requireFace wsX3_requireFace) := goodIn_app (goodIn_of _ (by decide +kernel)) ggX3_across_X3_requireFace
set_option maxRecDepth 20000 in
theorem ggX3_across_X0_crossings : GoodIn wsX3_across wsX0_crossings := goodIn_r _ [157, 158, 139, 105, 140, 98, 142, 76, 77, 78, 159, 160, 161, 92, 162, 182, 183, 184, 185, 186, 187, 188, 189, 178, 179, 180, 181] (by decide +kernel) (by decide +kernel)
set_option maxRecDepth 20000 in
theorem gX3_across_X0_crossings : GoodIn wsX3_across (wsV RX3 157 RX0 yX0_crossings wsX0_crossings) := goodIn_app (goodIn_of _ (by decide +kernel)) ggX3_across_X0_crossings
theorem dX3_across_0 : decode cX3_across 0 = .ok (.aload_n 0, 1) := by decide +kernel
theorem dX3_across_1 : decode cX3_across 1 = .ok (.invokevirtual 79, 3) := by decide +kernel
theorem dX3_across_4 : decode cX3_across 4 = .ok (.aload_n 0, 1) := by decide +kernel
theorem dX3_across_5 : decode cX3_across 5 = .ok (.iload_n 1, 1) := by decide +kernel
theorem dX3_across_6 : decode cX3_across 6 = .ok (.invokevirtual 120, 3) := by decide +kernel
theorem dX3_across_9 : decode cX3_across 9 = .ok (.aload_n 0, 1) := by decide +kernel
theorem dX3_across_10 : decode cX3_across 10 = .ok (.iload_n 2, 1) := by decide +kernel
theorem dX3_across_11 : decode cX3_across 11 = .ok (.invokevirtual 120, 3) := by decide +kernel
theorem dX3_across_14 : decode cX3_across 14 = .ok (.aload_n 0, 1) := by decide +kernel
theorem dX3_across_15 : decode cX3_across 15 = .ok (.getfield 12, 3) := by decide +kernel
theorem dX3_across_18 : decode cX3_across 18 = .ok (.iload_n 1, 1) := by decide +kernel
theorem dX3_across_19 : decode cX3_across 19 = .ok (.iload_n 2, 1) := by decide +kernel
theorem dX3_across_20 : decode cX3_across 20 = .ok (.invokevirtual 157, 3) := by decide +kernel
theorem dX3_across_23 : decode cX3_across 23 = .ok (.ireturn, 1) := by decide +kernel
set_option maxRecDepth 20000 in
theorem ggX3_refresh_X1_trace : GoodIn wsX3_refresh wsX1_trace := goodIn_r _ [8, 9, 10, 11, 12, 13, 14, 7, 15, 16, 17, 18, 19, 20, 21, 22, 23, 24, 25, 26, 27, 28, 29, 30, 31, 32, 33, 34, 35, 36, 37, 38, 39, 40, 41, 42, 43, 44, 45, 46, 47, 48, 49, 50, 51, 52, 53, 54, 55, 56, 57, 58, 59, 60, 61, 62, 63, 64, 65, 66, 67, 68, 69, 70, 71, 72, 73, 74, 75, 76, 77, 78, 79, 80, 81, 82, 83, 146, 147, 148, 149, 150, 151, 152, 153, 154, 155, 156, 157, 158, 159, 160] (by decide +kernel) (by decide +kernel)
set_option maxRecDepth 20000 in
theorem gX3_refresh_X1_trace : GoodIn wsX3_refresh (wsV RX3 160 RX1 yX1_trace wsX1_trace) := goodIn_app (goodIn_of _ (by decide +kernel)) ggX3_refresh_X1_trace
set_option maxRecDepth 20000 in
theorem ggX3_refresh_X0_settle : GoodIn wsX3_refresh wsX0_settle := goodIn_r _ [88, 89, 90, 91, 92, 93, 94, 95, 96, 97, 87, 98, 99, 100, 101, 102, 103, 104, 105, 7, 106, 63, 78, 107, 108, 109, 110, 69, 111, 79, 112, 113, 114, 115, 10, 11, 68, 70, 71, 72, 73, 116, 117, 118, 22, 119, 25, 120, 121, 122, 123, 124, 125, 126, 127, 26, 128, 129, 130, 131, 132, 133, 134, 135, 136, 137, 138, 139, 140, 141, 161, 162, 163, 164, 165, 166, 167, 168, 146, 147, 148, 149, 150, 151, 152, 153, 154, 155, 156, 157, 158, 159, 160] (by decide +kernel) (by decide +kernel)
set_option maxRecDepth 20000 in
theorem gX3_refresh_X0_settle : GoodIn wsX3_refresh (wsV RX3 163 RX0 yX0_settle wsX0_settle) := goodIn_app (goodIn_of _ (by decide +kernel)) ggX3_refresh_X0_settle
theorem dX3_refresh_0 : decode cX3_refresh 0 = .ok (.aload_n 0, 1) := by decide +kernel
theorem dX3_refresh_1 : decode cX3_refresh 1 = .ok (.getfield 28, 3) := by decide +kernel
theorem dX3_refresh_4 : decode cX3_refresh 4 = .ok (.ifCond .eq 22, 3) := by decide +kernel
theorem dX3_refresh_7 : decode cX3_refresh 7 = .ok (.aload_n 0, 1) := by decide +kernel
theorem dX3_refresh_8 : decode cX3_refresh 8 = .ok (.getfield 20, 3) := by decide +kernel
theorem dX3_refresh_11 : decode cX3_refresh 11 = .ok (.invokevirtual 160, 3) := by decide +kernel
theorem dX3_refresh_14 : decode cX3_refresh 14 = .ok (.aload_n 0, 1) := by decide +kernel
theorem dX3_refresh_15 : decode cX3_refresh 15 = .ok (.getfield 12, 3) := by decide +kernel
theorem dX3_refresh_18 : decode cX3_refresh 18 = .ok (.invokevirtual 163, 3) := by decide +kernel
theorem dX3_refresh_21 : decode cX3_refresh 21 = .ok (.aload_n 0, 1) := by decide +kernel
theorem dX3_refresh_22 : decode cX3_refresh 22 = .ok (.iconst 0, 1) := by decide +kernel
theorem dX3_refresh_23 : decode cX3_refresh 23 = .ok (.putfield 28, 3) := by decide +kernel
theorem dX3_refresh_26 : decode cX3_refresh 26 = .ok (.return_, 1) := by decide +kernel
set_option maxRecDepth 20000 in
theorem ggX3_requireHalf_X2_has : GoodIn wsX3_requireHalf wsX2_has := goodIn_r _ [8, 9, 14, 15, 16, 17] (by decide +kernel) (by decide +kernel)
set_option maxRecDepth 20000 in
theorem gX3_requireHalf_X2_has : GoodIn wsX3_requireHalf (wsV RX3 66 RX2 yX2_has wsX2_has) := goodIn_app (goodIn_of _ (by decide +kernel)) ggX3_requireHalf_X2_has
theorem dX3_requireHalf_0 : decode cX3_requireHalf 0 = .ok (.aload_n 0, 1) := by decide +kernel
theorem dX3_requireHalf_1 : decode cX3_requireHalf 1 = .ok (.getfield 27, 3) := by decide +kernel
theorem dX3_requireHalf_4 : decode cX3_requireHalf 4 = .ok (.iload_n 1, 1) := by decide +kernel
theorem dX3_requireHalf_5 : decode cX3_requireHalf 5 = .ok (.iconst 1, 1) := by decide +kernel
theorem dX3_requireHalf_6 : decode cX3_requireHalf 6 = .ok (.ishr, 1) := by decide +kernel
theorem dX3_requireHalf_7 : decode cX3_requireHalf 7 = .ok (.invokevirtual 66, 3) := by decide +kernel
theorem dX3_requireHalf_10 : decode cX3_requireHalf 10 = .ok (.ifCond .ne 13, 3) := by decide +kernel
theorem dX3_requireHalf_13 : decode cX3_requireHalf 13 = .ok (.new 112, 3) := by decide +kernel
theorem dX3_requireHalf_16 : decode cX3_requireHalf 16 = .ok (.dup, 1) := by decide +kernel
theorem dX3_requireHalf_17 : decode cX3_requireHalf 17 = .ok (.ldc 166, 2) := by decide +kernel
theorem dX3_requireHalf_19 : decode cX3_requireHalf 19 = .ok (.invokespecial 116, 3) := by decide +kernel
theorem dX3_requireHalf_22 : decode cX3_requireHalf 22 = .ok (.athrow, 1) := by decide +kernel
theorem dX3_requireHalf_23 : decode cX3_requireHalf 23 = .ok (.return_, 1) := by decide +kernel
theorem dX3_requireFace_0 : decode cX3_requireFace 0 = .ok (.iload_n 1, 1) := by decide +kernel
theorem dX3_requireFace_1 : decode cX3_requireFace 1 = .ok (.ifCond .lt 14, 3) := by decide +kernel
theorem dX3_requireFace_4 : decode cX3_requireFace 4 = .ok (.iload_n 1, 1) := by decide +kernel
theorem dX3_requireFace_5 : decode cX3_requireFace 5 = .ok (.aload_n 0, 1) := by decide +kernel
theorem dX3_requireFace_6 : decode cX3_requireFace 6 = .ok (.getfield 12, 3) := by decide +kernel
theorem dX3_requireFace_9 : decode cX3_requireFace 9 = .ok (.getfield 85, 3) := by decide +kernel
theorem dX3_requireFace_12 : decode cX3_requireFace 12 = .ok (.if_icmp .lt 13, 3) := by decide +kernel
theorem dX3_requireFace_15 : decode cX3_requireFace 15 = .ok (.new 112, 3) := by decide +kernel
theorem dX3_requireFace_18 : decode cX3_requireFace 18 = .ok (.dup, 1) := by decide +kernel
theorem dX3_requireFace_19 : decode cX3_requireFace 19 = .ok (.ldc 168, 2) := by decide +kernel
theorem dX3_requireFace_21 : decode cX3_requireFace 21 = .ok (.invokespecial 116, 3) := by decide +kernel
theorem dX3_requireFace_24 : decode cX3_requireFace 24 = .ok (.athrow, 1) := by decide +kernel
theorem dX3_requireFace_25 : decode cX3_requireFace 25 = .ok (.return_, 1) := by decide +kernel
theorem dX3_requirePlace_0 : decode cX3_requirePlace 0 = .ok (.iload_n 0, 1) := by decide +kernel
theorem dX3_requirePlace_1 : decode cX3_requirePlace 1 = .ok (.sipush (-16000), 3) := by decide +kernel
theorem dX3_requirePlace_4 : decode cX3_requirePlace 4 = .ok (.if_icmp .lt 24, 3) := by decide +kernel
theorem dX3_requirePlace_7 : decode cX3_requirePlace 7 = .ok (.iload_n 0, 1) := by decide +kernel
theorem dX3_requirePlace_8 : decode cX3_requirePlace 8 = .ok (.sipush 16000, 3) := by decide +kernel
theorem dX3_requirePlace_11 : decode cX3_requirePlace 11 = .ok (.if_icmp .gt 17, 3) := by decide +kernel
theorem dX3_requirePlace_14 : decode cX3_requirePlace 14 = .ok (.iload_n 1, 1) := by decide +kernel
theorem dX3_requirePlace_15 : decode cX3_requirePlace 15 = .ok (.sipush (-16000), 3) := by decide +kernel
theorem dX3_requirePlace_18 : decode cX3_requirePlace 18 = .ok (.if_icmp .lt 10, 3) := by decide +kernel
theorem dX3_requirePlace_21 : decode cX3_requirePlace 21 = .ok (.iload_n 1, 1) := by decide +kernel
theorem dX3_requirePlace_22 : decode cX3_requirePlace 22 = .ok (.sipush 16000, 3) := by decide +kernel
theorem dX3_requirePlace_25 : decode cX3_requirePlace 25 = .ok (.if_icmp .le 13, 3) := by decide +kernel
theorem dX3_requirePlace_28 : decode cX3_requirePlace 28 = .ok (.new 36, 3) := by decide +kernel
theorem dX3_requirePlace_31 : decode cX3_requirePlace 31 = .ok (.dup, 1) := by decide +kernel
theorem dX3_requirePlace_32 : decode cX3_requirePlace 32 = .ok (.ldc 170, 2) := by decide +kernel
theorem dX3_requirePlace_34 : decode cX3_requirePlace 34 = .ok (.invokespecial 40, 3) := by decide +kernel
theorem dX3_requirePlace_37 : decode cX3_requirePlace 37 = .ok (.athrow, 1) := by decide +kernel
theorem dX3_requirePlace_38 : decode cX3_requirePlace 38 = .ok (.return_, 1) := by decide +kernel
theorem dJ9_abs_0f7a4_0 : decode cJ9_abs_0f7a4 0 = .ok (.iload_n 0, 1) := by decide +kernel
theorem dJ9_abs_0f7a4_1 : decode cJ9_abs_0f7a4 1 = .ok (.ifCond .ge 8, 3) := by decide +kernel
theorem dJ9_abs_0f7a4_4 : decode cJ9_abs_0f7a4 4 = .ok (.iload_n 0, 1) := by decide +kernel
theorem dJ9_abs_0f7a4_5 : decode cJ9_abs_0f7a4 5 = .ok (.ineg, 1) := by decide +kernel
theorem dJ9_abs_0f7a4_6 : decode cJ9_abs_0f7a4 6 = .ok (.goto 4, 3) := by decide +kernel
theorem dJ9_abs_0f7a4_9 : decode cJ9_abs_0f7a4 9 = .ok (.iload_n 0, 1) := by decide +kernel
theorem dJ9_abs_0f7a4_10 : decode cJ9_abs_0f7a4 10 = .ok (.ireturn, 1) := by decide +kernel
theorem dJ9_max_7cf53_0 : decode cJ9_max_7cf53 0 = .ok (.iload_n 0, 1) := by decide +kernel
theorem dJ9_max_7cf53_1 : decode cJ9_max_7cf53 1 = .ok (.iload_n 1, 1) := by decide +kernel
theorem dJ9_max_7cf53_2 : decode cJ9_max_7cf53 2 = .ok (.if_icmp .lt 7, 3) := by decide +kernel
theorem dJ9_max_7cf53_5 : decode cJ9_max_7cf53 5 = .ok (.iload_n 0, 1) := by decide +kernel
theorem dJ9_max_7cf53_6 : decode cJ9_max_7cf53 6 = .ok (.goto 4, 3) := by decide +kernel
theorem dJ9_max_7cf53_9 : decode cJ9_max_7cf53 9 = .ok (.iload_n 1, 1) := by decide +kernel
theorem dJ9_max_7cf53_10 : decode cJ9_max_7cf53 10 = .ok (.ireturn, 1) := by decide +kernel
theorem dJ9_min_7cf53_0 : decode cJ9_min_7cf53 0 = .ok (.iload_n 0, 1) := by decide +kernel
theorem dJ9_min_7cf53_1 : decode cJ9_min_7cf53 1 = .ok (.iload_n 1, 1) := by decide +kernel
theorem dJ9_min_7cf53_2 : decode cJ9_min_7cf53 2 = .ok (.if_icmp .gt 7, 3) := by decide +kernel
theorem dJ9_min_7cf53_5 : decode cJ9_min_7cf53 5 = .ok (.iload_n 0, 1) := by decide +kernel
theorem dJ9_min_7cf53_6 : decode cJ9_min_7cf53 6 = .ok (.goto 4, 3) := by decide +kernel
theorem dJ9_min_7cf53_9 : decode cJ9_min_7cf53 9 = .ok (.iload_n 1, 1) := by decide +kernel
theorem dJ9_min_7cf53_10 : decode cJ9_min_7cf53 10 = .ok (.ireturn, 1) := by decide +kernel
theorem dJ7_fill_53178_0 : decode cJ7_fill_53178 0 = .ok (.iconst 0, 1) := by decide +kernel
theorem dJ7_fill_53178_1 : decode cJ7_fill_53178 1 = .ok (.istore_n 2, 1) := by decide +kernel
theorem dJ7_fill_53178_2 : decode cJ7_fill_53178 2 = .ok (.aload_n 0, 1) := by decide +kernel
theorem dJ7_fill_53178_3 : decode cJ7_fill_53178 3 = .ok (.arraylength, 1) := by decide +kernel
theorem dJ7_fill_53178_4 : decode cJ7_fill_53178 4 = .ok (.istore_n 3, 1) := by decide +kernel
theorem dJ7_fill_53178_5 : decode cJ7_fill_53178 5 = .ok (.iload_n 2, 1) := by decide +kernel
theorem dJ7_fill_53178_6 : decode cJ7_fill_53178 6 = .ok (.iload_n 3, 1) := by decide +kernel
theorem dJ7_fill_53178_7 : decode cJ7_fill_53178 7 = .ok (.if_icmp .ge 13, 3) := by decide +kernel
theorem dJ7_fill_53178_10 : decode cJ7_fill_53178 10 = .ok (.aload_n 0, 1) := by decide +kernel
theorem dJ7_fill_53178_11 : decode cJ7_fill_53178 11 = .ok (.iload_n 2, 1) := by decide +kernel
theorem dJ7_fill_53178_12 : decode cJ7_fill_53178 12 = .ok (.iload_n 1, 1) := by decide +kernel
theorem dJ7_fill_53178_13 : decode cJ7_fill_53178 13 = .ok (.iastore, 1) := by decide +kernel
theorem dJ7_fill_53178_14 : decode cJ7_fill_53178 14 = .ok (.iinc 2 1, 3) := by decide +kernel
theorem dJ7_fill_53178_17 : decode cJ7_fill_53178 17 = .ok (.goto (-12), 3) := by decide +kernel
theorem dJ7_fill_53178_20 : decode cJ7_fill_53178 20 = .ok (.return_, 1) := by decide +kernel
end
section
theorem dX4_init_0 : decode cX4_init 0 = .ok (.aload_n 0, 1) := by decide +kernel
theorem dX4_init_1 : decode cX4_init 1 = .ok (.invokespecial 1, 3) := by decide +kernel
theorem dX4_init_4 : decode cX4_init 4 = .ok (.aload_n 0, 1) := by decide +kernel
theorem dX4_init_5 : decode cX4_init 5 = .ok (.bipush 60, 2) := by decide +kernel
theorem dX4_init_7 : decode cX4_init 7 = .ok (.newarray .boolean, 2) := by decide +kernel
theorem dX4_init_9 : decode cX4_init 9 = .ok (.putfield 7, 3) := by decide +kernel
theorem dX4_init_12 : decode cX4_init 12 = .ok (.aload_n 0, 1) := by decide +kernel
theorem dX4_init_13 : decode cX4_init 13 = .ok (.bipush 120, 2) := by decide +kernel
theorem dX4_init_15 : decode cX4_init 15 = .ok (.newarray .int, 2) := by decide +kernel
theorem dX4_init_17 : decode cX4_init 17 = .ok (.putfield 13, 3) := by decide +kernel
theorem dX4_init_20 : decode cX4_init 20 = .ok (.aload_n 0, 1) := by decide +kernel
theorem dX4_init_21 : decode cX4_init 21 = .ok (.bipush 120, 2) := by decide +kernel
theorem dX4_init_23 : decode cX4_init 23 = .ok (.newarray .int, 2) := by decide +kernel
theorem dX4_init_25 : decode cX4_init 25 = .ok (.putfield 17, 3) := by decide +kernel
theorem dX4_init_28 : decode cX4_init 28 = .ok (.aload_n 0, 1) := by decide +kernel
theorem dX4_init_29 : decode cX4_init 29 = .ok (.bipush 120, 2) := by decide +kernel
theorem dX4_init_31 : decode cX4_init 31 = .ok (.newarray .int, 2) := by decide +kernel
theorem dX4_init_33 : decode cX4_init 33 = .ok (.putfield 20, 3) := by decide +kernel
theorem dX4_init_36 : decode cX4_init 36 = .ok (.aload_n 0, 1) := by decide +kernel
theorem dX4_init_37 : decode cX4_init 37 = .ok (.bipush 120, 2) := by decide +kernel
theorem dX4_init_39 : decode cX4_init 39 = .ok (.newarray .int, 2) := by decide +kernel
theorem dX4_init_41 : decode cX4_init 41 = .ok (.putfield 23, 3) := by decide +kernel
theorem dX4_init_44 : decode cX4_init 44 = .ok (.aload_n 0, 1) := by decide +kernel
theorem dX4_init_45 : decode cX4_init 45 = .ok (.bipush 120, 2) := by decide +kernel
theorem dX4_init_47 : decode cX4_init 47 = .ok (.newarray .int, 2) := by decide +kernel
theorem dX4_init_49 : decode cX4_init 49 = .ok (.putfield 26, 3) := by decide +kernel
theorem dX4_init_52 : decode cX4_init 52 = .ok (.aload_n 0, 1) := by decide +kernel
theorem dX4_init_53 : decode cX4_init 53 = .ok (.bipush 120, 2) := by decide +kernel
theorem dX4_init_55 : decode cX4_init 55 = .ok (.newarray .int, 2) := by decide +kernel
theorem dX4_init_57 : decode cX4_init 57 = .ok (.putfield 29, 3) := by decide +kernel
theorem dX4_init_60 : decode cX4_init 60 = .ok (.aload_n 0, 1) := by decide +kernel
theorem dX4_init_61 : decode cX4_init 61 = .ok (.bipush 120, 2) := by decide +kernel
theorem dX4_init_63 : decode cX4_init 63 = .ok (.newarray .long, 2) := by decide +kernel
theorem dX4_init_65 : decode cX4_init 65 = .ok (.putfield 32, 3) := by decide +kernel
theorem dX4_init_68 : decode cX4_init 68 = .ok (.aload_n 0, 1) := by decide +kernel
theorem dX4_init_69 : decode cX4_init 69 = .ok (.bipush 120, 2) := by decide +kernel
theorem dX4_init_71 : decode cX4_init 71 = .ok (.newarray .int, 2) := by decide +kernel
theorem dX4_init_73 : decode cX4_init 73 = .ok (.putfield 36, 3) := by decide +kernel
theorem dX4_init_76 : decode cX4_init 76 = .ok (.aload_n 0, 1) := by decide +kernel
theorem dX4_init_77 : decode cX4_init 77 = .ok (.bipush 122, 2) := by decide +kernel
theorem dX4_init_79 : decode cX4_init 79 = .ok (.newarray .int, 2) := by decide +kernel
theorem dX4_init_81 : decode cX4_init 81 = .ok (.putfield 39, 3) := by decide +kernel
theorem dX4_init_84 : decode cX4_init 84 = .ok (.aload_n 0, 1) := by decide +kernel
theorem dX4_init_85 : decode cX4_init 85 = .ok (.bipush 122, 2) := by decide +kernel
theorem dX4_init_87 : decode cX4_init 87 = .ok (.newarray .int, 2) := by decide +kernel
theorem dX4_init_89 : decode cX4_init 89 = .ok (.putfield 42, 3) := by decide +kernel
theorem dX4_init_92 : decode cX4_init 92 = .ok (.return_, 1) := by decide +kernel
theorem dX4_thrown_0 : decode cX4_thrown 0 = .ok (.aload_n 0, 1) := by decide +kernel
theorem dX4_thrown_1 : decode cX4_thrown 1 = .ok (.getfield 45, 3) := by decide +kernel
theorem dX4_thrown_4 : decode cX4_thrown 4 = .ok (.ireturn, 1) := by decide +kernel
theorem dX4_refused_0 : decode cX4_refused 0 = .ok (.aload_n 0, 1) := by decide +kernel
theorem dX4_refused_1 : decode cX4_refused 1 = .ok (.iload_n 1, 1) := by decide +kernel
theorem dX4_refused_2 : decode cX4_refused 2 = .ok (.putfield 45, 3) := by decide +kernel
theorem dX4_refused_5 : decode cX4_refused 5 = .ok (.iload_n 1, 1) := by decide +kernel
theorem dX4_refused_6 : decode cX4_refused 6 = .ok (.ifCond .le 7, 3) := by decide +kernel
theorem dX4_refused_9 : decode cX4_refused 9 = .ok (.iconst 1, 1) := by decide +kernel
theorem dX4_refused_10 : decode cX4_refused 10 = .ok (.goto 4, 3) := by decide +kernel
theorem dX4_refused_13 : decode cX4_refused 13 = .ok (.iconst 0, 1) := by decide +kernel
theorem dX4_refused_14 : decode cX4_refused 14 = .ok (.ireturn, 1) := by decide +kernel
theorem dX4_isIn_0 : decode cX4_isIn 0 = .ok (.iload_n 0, 1) := by decide +kernel
theorem dX4_isIn_1 : decode cX4_isIn 1 = .ok (.sipush (-16000), 3) := by decide +kernel
theorem dX4_isIn_4 : decode cX4_isIn 4 = .ok (.if_icmp .lt 14, 3) := by decide +kernel
theorem dX4_isIn_7 : decode cX4_isIn 7 = .ok (.iload_n 0, 1) := by decide +kernel
theorem dX4_isIn_8 : decode cX4_isIn 8 = .ok (.sipush 16000, 3) := by decide +kernel
theorem dX4_isIn_11 : decode cX4_isIn 11 = .ok (.if_icmp .gt 7, 3) := by decide +kernel
theorem dX4_isIn_14 : decode cX4_isIn 14 = .ok (.iconst 1, 1) := by decide +kernel
theorem dX4_isIn_15 : decode cX4_isIn 15 = .ok (.goto 4, 3) := by decide +kernel
theorem dX4_isIn_18 : decode cX4_isIn 18 = .ok (.iconst 0, 1) := by decide +kernel
theorem dX4_isIn_19 : decode cX4_isIn 19 = .ok (.ireturn, 1) := by decide +kernel
theorem dX4_sign_0 : decode cX4_sign 0 = .ok (.lload_n 0, 1) := by decide +kernel
theorem dX4_sign_1 : decode cX4_sign 1 = .ok (.lconst 0, 1) := by decide +kernel
theorem dX4_sign_2 : decode cX4_sign 2 = .ok (.lcmp, 1) := by decide +kernel
theorem dX4_sign_3 : decode cX4_sign 3 = .ok (.ifCond .le 7, 3) := by decide +kernel
theorem dX4_sign_6 : decode cX4_sign 6 = .ok (.iconst 1, 1) := by decide +kernel
theorem dX4_sign_7 : decode cX4_sign 7 = .ok (.goto 14, 3) := by decide +kernel
theorem dX4_sign_10 : decode cX4_sign 10 = .ok (.lload_n 0, 1) := by decide +kernel
theorem dX4_sign_11 : decode cX4_sign 11 = .ok (.lconst 0, 1) := by decide +kernel
theorem dX4_sign_12 : decode cX4_sign 12 = .ok (.lcmp, 1) := by decide +kernel
theorem dX4_sign_13 : decode cX4_sign 13 = .ok (.ifCond .ge 7, 3) := by decide +kernel
theorem dX4_sign_16 : decode cX4_sign 16 = .ok (.iconst (-1), 1) := by decide +kernel
theorem dX4_sign_17 : decode cX4_sign 17 = .ok (.goto 4, 3) := by decide +kernel
theorem dX4_sign_20 : decode cX4_sign 20 = .ok (.iconst 0, 1) := by decide +kernel
theorem dX4_sign_21 : decode cX4_sign 21 = .ok (.ireturn, 1) := by decide +kernel
set_option maxRecDepth 20000 in
theorem ggX4_side_X4_sign : GoodIn wsX4_side wsX4_sign := goodIn_r _ [4] (by decide +kernel) (by decide +kernel)
set_option maxRecDepth 20000 in
theorem gX4_side_X4_sign : GoodIn wsX4_side (va_wsS RX4 49 yX4_sign wsX4_sign) := goodIn_app (goodIn_of _ (by decide +kernel)) ggX4_side_X4_sign
theorem dX4_side_0 : decode cX4_side 0 = .ok (.iload_n 2, 1) := by decide +kernel
theorem dX4_side_1 : decode cX4_side 1 = .ok (.iload_n 0, 1) := by decide +kernel
theorem dX4_side_2 : decode cX4_side 2 = .ok (.isub, 1) := by decide +kernel
theorem dX4_side_3 : decode cX4_side 3 = .ok (.i2l, 1) := by decide +kernel
theorem dX4_side_4 : decode cX4_side 4 = .ok (.iload 5, 2) := by decide +kernel
theorem dX4_side_6 : decode cX4_side 6 = .ok (.iload_n 1, 1) := by decide +kernel
theorem dX4_side_7 : decode cX4_side 7 = .ok (.isub, 1) := by decide +kernel
theorem dX4_side_8 : decode cX4_side 8 = .ok (.i2l, 1) := by decide +kernel
theorem dX4_side_9 : decode cX4_side 9 = .ok (.lmul, 1) := by decide +kernel
theorem dX4_side_10 : decode cX4_side 10 = .ok (.iload_n 3, 1) := by decide +kernel
theorem dX4_side_11 : decode cX4_side 11 = .ok (.iload_n 1, 1) := by decide +kernel
theorem dX4_side_12 : decode cX4_side 12 = .ok (.isub, 1) := by decide +kernel
theorem dX4_side_13 : decode cX4_side 13 = .ok (.i2l, 1) := by decide +kernel
theorem dX4_side_14 : decode cX4_side 14 = .ok (.iload 4, 2) := by decide +kernel
theorem dX4_side_16 : decode cX4_side 16 = .ok (.iload_n 0, 1) := by decide +kernel
theorem dX4_side_17 : decode cX4_side 17 = .ok (.isub, 1) := by decide +kernel
theorem dX4_side_18 : decode cX4_side 18 = .ok (.i2l, 1) := by decide +kernel
theorem dX4_side_19 : decode cX4_side 19 = .ok (.lmul, 1) := by decide +kernel
theorem dX4_side_20 : decode cX4_side 20 = .ok (.lsub, 1) := by decide +kernel
theorem dX4_side_21 : decode cX4_side 21 = .ok (.invokestatic 49, 3) := by decide +kernel
theorem dX4_side_24 : decode cX4_side 24 = .ok (.ireturn, 1) := by decide +kernel
set_option maxRecDepth 20000 in
theorem ggX4_isOn_X4_side : GoodIn wsX4_isOn wsX4_side := goodIn_r _ [4, 5, 6, 3, 7] (by decide +kernel) (by decide +kernel)
set_option maxRecDepth 20000 in
theorem gX4_isOn_X4_side : GoodIn wsX4_isOn (va_wsS RX4 53 yX4_side wsX4_side) := goodIn_app (goodIn_of _ (by decide +kernel)) ggX4_isOn_X4_side
theorem dX4_isOn_0 : decode cX4_isOn 0 = .ok (.iload_n 0, 1) := by decide +kernel
theorem dX4_isOn_1 : decode cX4_isOn 1 = .ok (.iload_n 1, 1) := by decide +kernel
theorem dX4_isOn_2 : decode cX4_isOn 2 = .ok (.iload_n 2, 1) := by decide +kernel
theorem dX4_isOn_3 : decode cX4_isOn 3 = .ok (.iload_n 3, 1) := by decide +kernel
theorem dX4_isOn_4 : decode cX4_isOn 4 = .ok (.iload 4, 2) := by decide +kernel
theorem dX4_isOn_6 : decode cX4_isOn 6 = .ok (.iload 5, 2) := by decide +kernel
theorem dX4_isOn_8 : decode cX4_isOn 8 = .ok (.invokestatic 53, 3) := by decide +kernel
theorem dX4_isOn_11 : decode cX4_isOn 11 = .ok (.ifCond .ne 7, 3) := by decide +kernel
theorem dX4_isOn_14 : decode cX4_isOn 14 = .ok (.iconst 1, 1) := by decide +kernel
theorem dX4_isOn_15 : decode cX4_isOn 15 = .ok (.goto 4, 3) := by decide +kernel
theorem dX4_isOn_18 : decode cX4_isOn 18 = .ok (.iconst 0, 1) := by decide +kernel
theorem dX4_isOn_19 : decode cX4_isOn 19 = .ok (.istore 6, 2) := by decide +kernel
theorem dX4_isOn_21 : decode cX4_isOn 21 = .ok (.iload_n 0, 1) := by decide +kernel
theorem dX4_isOn_22 : decode cX4_isOn 22 = .ok (.iload_n 2, 1) := by decide +kernel
theorem dX4_isOn_23 : decode cX4_isOn 23 = .ok (.if_icmp .ge 23, 3) := by decide +kernel
theorem dX4_isOn_26 : decode cX4_isOn 26 = .ok (.iload 4, 2) := by decide +kernel
theorem dX4_isOn_28 : decode cX4_isOn 28 = .ok (.iload_n 0, 1) := by decide +kernel
theorem dX4_isOn_29 : decode cX4_isOn 29 = .ok (.if_icmp .lt 13, 3) := by decide +kernel
theorem dX4_isOn_32 : decode cX4_isOn 32 = .ok (.iload 4, 2) := by decide +kernel
theorem dX4_isOn_34 : decode cX4_isOn 34 = .ok (.iload_n 2, 1) := by decide +kernel
theorem dX4_isOn_35 : decode cX4_isOn 35 = .ok (.if_icmp .gt 7, 3) := by decide +kernel
theorem dX4_isOn_38 : decode cX4_isOn 38 = .ok (.iconst 1, 1) := by decide +kernel
theorem dX4_isOn_39 : decode cX4_isOn 39 = .ok (.goto 24, 3) := by decide +kernel
theorem dX4_isOn_42 : decode cX4_isOn 42 = .ok (.iconst 0, 1) := by decide +kernel
theorem dX4_isOn_43 : decode cX4_isOn 43 = .ok (.goto 20, 3) := by decide +kernel
theorem dX4_isOn_46 : decode cX4_isOn 46 = .ok (.iload 4, 2) := by decide +kernel
theorem dX4_isOn_48 : decode cX4_isOn 48 = .ok (.iload_n 2, 1) := by decide +kernel
theorem dX4_isOn_49 : decode cX4_isOn 49 = .ok (.if_icmp .lt 13, 3) := by decide +kernel
theorem dX4_isOn_52 : decode cX4_isOn 52 = .ok (.iload 4, 2) := by decide +kernel
theorem dX4_isOn_54 : decode cX4_isOn 54 = .ok (.iload_n 0, 1) := by decide +kernel
theorem dX4_isOn_55 : decode cX4_isOn 55 = .ok (.if_icmp .gt 7, 3) := by decide +kernel
theorem dX4_isOn_58 : decode cX4_isOn 58 = .ok (.iconst 1, 1) := by decide +kernel
theorem dX4_isOn_59 : decode cX4_isOn 59 = .ok (.goto 4, 3) := by decide +kernel
theorem dX4_isOn_62 : decode cX4_isOn 62 = .ok (.iconst 0, 1) := by decide +kernel
theorem dX4_isOn_63 : decode cX4_isOn 63 = .ok (.istore 7, 2) := by decide +kernel
theorem dX4_isOn_65 : decode cX4_isOn 65 = .ok (.iload_n 1, 1) := by decide +kernel
theorem dX4_isOn_66 : decode cX4_isOn 66 = .ok (.iload_n 3, 1) := by decide +kernel
theorem dX4_isOn_67 : decode cX4_isOn 67 = .ok (.if_icmp .ge 23, 3) := by decide +kernel
theorem dX4_isOn_70 : decode cX4_isOn 70 = .ok (.iload 5, 2) := by decide +kernel
theorem dX4_isOn_72 : decode cX4_isOn 72 = .ok (.iload_n 1, 1) := by decide +kernel
theorem dX4_isOn_73 : decode cX4_isOn 73 = .ok (.if_icmp .lt 13, 3) := by decide +kernel
theorem dX4_isOn_76 : decode cX4_isOn 76 = .ok (.iload 5, 2) := by decide +kernel
theorem dX4_isOn_78 : decode cX4_isOn 78 = .ok (.iload_n 3, 1) := by decide +kernel
theorem dX4_isOn_79 : decode cX4_isOn 79 = .ok (.if_icmp .gt 7, 3) := by decide +kernel
theorem dX4_isOn_82 : decode cX4_isOn 82 = .ok (.iconst 1, 1) := by decide +kernel
theorem dX4_isOn_83 : decode cX4_isOn 83 = .ok (.goto 24, 3) := by decide +kernel
theorem dX4_isOn_86 : decode cX4_isOn 86 = .ok (.iconst 0, 1) := by decide +kernel
theorem dX4_isOn_87 : decode cX4_isOn 87 = .ok (.goto 20, 3) := by decide +kernel
theorem dX4_isOn_90 : decode cX4_isOn 90 = .ok (.iload 5, 2) := by decide +kernel
theorem dX4_isOn_92 : decode cX4_isOn 92 = .ok (.iload_n 3, 1) := by decide +kernel
theorem dX4_isOn_93 : decode cX4_isOn 93 = .ok (.if_icmp .lt 13, 3) := by decide +kernel
theorem dX4_isOn_96 : decode cX4_isOn 96 = .ok (.iload 5, 2) := by decide +kernel
theorem dX4_isOn_98 : decode cX4_isOn 98 = .ok (.iload_n 1, 1) := by decide +kernel
theorem dX4_isOn_99 : decode cX4_isOn 99 = .ok (.if_icmp .gt 7, 3) := by decide +kernel
theorem dX4_isOn_102 : decode cX4_isOn 102 = .ok (.iconst 1, 1) := by decide +kernel
theorem dX4_isOn_103 : decode cX4_isOn 103 = .ok (.goto 4, 3) := by decide +kernel
theorem dX4_isOn_106 : decode cX4_isOn 106 = .ok (.iconst 0, 1) := by decide +kernel
theorem dX4_isOn_107 : decode cX4_isOn 107 = .ok (.istore 8, 2) := by decide +kernel
theorem dX4_isOn_109 : decode cX4_isOn 109 = .ok (.iload 6, 2) := by decide +kernel
theorem dX4_isOn_111 : decode cX4_isOn 111 = .ok (.ifCond .eq 17, 3) := by decide +kernel
theorem dX4_isOn_114 : decode cX4_isOn 114 = .ok (.iload 7, 2) := by decide +kernel
theorem dX4_isOn_116 : decode cX4_isOn 116 = .ok (.ifCond .eq 12, 3) := by decide +kernel
theorem dX4_isOn_119 : decode cX4_isOn 119 = .ok (.iload 8, 2) := by decide +kernel
theorem dX4_isOn_121 : decode cX4_isOn 121 = .ok (.ifCond .eq 7, 3) := by decide +kernel
theorem dX4_isOn_124 : decode cX4_isOn 124 = .ok (.iconst 1, 1) := by decide +kernel
theorem dX4_isOn_125 : decode cX4_isOn 125 = .ok (.goto 4, 3) := by decide +kernel
theorem dX4_isOn_128 : decode cX4_isOn 128 = .ok (.iconst 0, 1) := by decide +kernel
theorem dX4_isOn_129 : decode cX4_isOn 129 = .ok (.ireturn, 1) := by decide +kernel
theorem dX4_isEnd_0 : decode cX4_isEnd 0 = .ok (.aload_n 0, 1) := by decide +kernel
theorem dX4_isEnd_1 : decode cX4_isEnd 1 = .ok (.getfield 13, 3) := by decide +kernel
theorem dX4_isEnd_4 : decode cX4_isEnd 4 = .ok (.iconst 2, 1) := by decide +kernel
theorem dX4_isEnd_5 : decode cX4_isEnd 5 = .ok (.iload_n 1, 1) := by decide +kernel
theorem dX4_isEnd_6 : decode cX4_isEnd 6 = .ok (.imul, 1) := by decide +kernel
theorem dX4_isEnd_7 : decode cX4_isEnd 7 = .ok (.iaload, 1) := by decide +kernel
theorem dX4_isEnd_8 : decode cX4_isEnd 8 = .ok (.iload_n 2, 1) := by decide +kernel
theorem dX4_isEnd_9 : decode cX4_isEnd 9 = .ok (.if_icmp .ne 15, 3) := by decide +kernel
theorem dX4_isEnd_12 : decode cX4_isEnd 12 = .ok (.aload_n 0, 1) := by decide +kernel
theorem dX4_isEnd_13 : decode cX4_isEnd 13 = .ok (.getfield 17, 3) := by decide +kernel
theorem dX4_isEnd_16 : decode cX4_isEnd 16 = .ok (.iconst 2, 1) := by decide +kernel
theorem dX4_isEnd_17 : decode cX4_isEnd 17 = .ok (.iload_n 1, 1) := by decide +kernel
theorem dX4_isEnd_18 : decode cX4_isEnd 18 = .ok (.imul, 1) := by decide +kernel
theorem dX4_isEnd_19 : decode cX4_isEnd 19 = .ok (.iaload, 1) := by decide +kernel
theorem dX4_isEnd_20 : decode cX4_isEnd 20 = .ok (.iload_n 3, 1) := by decide +kernel
theorem dX4_isEnd_21 : decode cX4_isEnd 21 = .ok (.if_icmp .eq 31, 3) := by decide +kernel
theorem dX4_isEnd_24 : decode cX4_isEnd 24 = .ok (.aload_n 0, 1) := by decide +kernel
theorem dX4_isEnd_25 : decode cX4_isEnd 25 = .ok (.getfield 13, 3) := by decide +kernel
theorem dX4_isEnd_28 : decode cX4_isEnd 28 = .ok (.iconst 2, 1) := by decide +kernel
theorem dX4_isEnd_29 : decode cX4_isEnd 29 = .ok (.iload_n 1, 1) := by decide +kernel
theorem dX4_isEnd_30 : decode cX4_isEnd 30 = .ok (.imul, 1) := by decide +kernel
theorem dX4_isEnd_31 : decode cX4_isEnd 31 = .ok (.iconst 1, 1) := by decide +kernel
theorem dX4_isEnd_32 : decode cX4_isEnd 32 = .ok (.iadd, 1) := by decide +kernel
theorem dX4_isEnd_33 : decode cX4_isEnd 33 = .ok (.iaload, 1) := by decide +kernel
theorem dX4_isEnd_34 : decode cX4_isEnd 34 = .ok (.iload_n 2, 1) := by decide +kernel
theorem dX4_isEnd_35 : decode cX4_isEnd 35 = .ok (.if_icmp .ne 21, 3) := by decide +kernel
theorem dX4_isEnd_38 : decode cX4_isEnd 38 = .ok (.aload_n 0, 1) := by decide +kernel
theorem dX4_isEnd_39 : decode cX4_isEnd 39 = .ok (.getfield 17, 3) := by decide +kernel
theorem dX4_isEnd_42 : decode cX4_isEnd 42 = .ok (.iconst 2, 1) := by decide +kernel
theorem dX4_isEnd_43 : decode cX4_isEnd 43 = .ok (.iload_n 1, 1) := by decide +kernel
theorem dX4_isEnd_44 : decode cX4_isEnd 44 = .ok (.imul, 1) := by decide +kernel
theorem dX4_isEnd_45 : decode cX4_isEnd 45 = .ok (.iconst 1, 1) := by decide +kernel
theorem dX4_isEnd_46 : decode cX4_isEnd 46 = .ok (.iadd, 1) := by decide +kernel
theorem dX4_isEnd_47 : decode cX4_isEnd 47 = .ok (.iaload, 1) := by decide +kernel
theorem dX4_isEnd_48 : decode cX4_isEnd 48 = .ok (.iload_n 3, 1) := by decide +kernel
theorem dX4_isEnd_49 : decode cX4_isEnd 49 = .ok (.if_icmp .ne 7, 3) := by decide +kernel
theorem dX4_isEnd_52 : decode cX4_isEnd 52 = .ok (.iconst 1, 1) := by decide +kernel
theorem dX4_isEnd_53 : decode cX4_isEnd 53 = .ok (.goto 4, 3) := by decide +kernel
theorem dX4_isEnd_56 : decode cX4_isEnd 56 = .ok (.iconst 0, 1) := by decide +kernel
theorem dX4_isEnd_57 : decode cX4_isEnd 57 = .ok (.ireturn, 1) := by decide +kernel
set_option maxRecDepth 20000 in
theorem ggX4_meets_X4_isEnd : GoodIn wsX4_meets wsX4_isEnd := goodIn_r _ [7, 1, 2, 17, 18, 19, 20, 21, 22, 23, 24, 25, 26, 27, 28, 29, 30, 31, 32] (by decide +kernel) (by decide +kernel)
set_option maxRecDepth 20000 in
theorem gX4_meets_X4_isEnd : GoodIn wsX4_meets (wsV RX4 57 RX4 yX4_isEnd wsX4_isEnd) := goodIn_app (goodIn_of _ (by decide +kernel)) ggX4_meets_X4_isEnd
set_option maxRecDepth 20000 in
theorem ggX4_meets_X4_isOn : GoodIn wsX4_meets wsX4_isOn := goodIn_r _ [10, 11, 12, 6, 13, 14, 15, 16] (by decide +kernel) (by decide +kernel)
set_option maxRecDepth 20000 in
theorem gX4_meets_X4_isOn : GoodIn wsX4_meets (va_wsS RX4 61 yX4_isOn wsX4_isOn) := goodIn_app (goodIn_of _ (by decide +kernel)) ggX4_meets_X4_isOn
set_option maxRecDepth 20000 in
theorem ggX4_meets_X4_side : GoodIn wsX4_meets wsX4_side := goodIn_r _ [13, 14, 15, 6, 16] (by decide +kernel) (by decide +kernel)
set_option maxRecDepth 20000 in
theorem gX4_meets_X4_side : GoodIn wsX4_meets (va_wsS RX4 53 yX4_side wsX4_side) := goodIn_app (goodIn_of _ (by decide +kernel)) ggX4_meets_X4_side
theorem dX4_meets_0 : decode cX4_meets 0 = .ok (.aload_n 0, 1) := by decide +kernel
theorem dX4_meets_1 : decode cX4_meets 1 = .ok (.getfield 13, 3) := by decide +kernel
theorem dX4_meets_4 : decode cX4_meets 4 = .ok (.iconst 2, 1) := by decide +kernel
theorem dX4_meets_5 : decode cX4_meets 5 = .ok (.iload_n 1, 1) := by decide +kernel
theorem dX4_meets_6 : decode cX4_meets 6 = .ok (.imul, 1) := by decide +kernel
theorem dX4_meets_7 : decode cX4_meets 7 = .ok (.iaload, 1) := by decide +kernel
theorem dX4_meets_8 : decode cX4_meets 8 = .ok (.istore 6, 2) := by decide +kernel
theorem dX4_meets_10 : decode cX4_meets 10 = .ok (.aload_n 0, 1) := by decide +kernel
theorem dX4_meets_11 : decode cX4_meets 11 = .ok (.getfield 17, 3) := by decide +kernel
theorem dX4_meets_14 : decode cX4_meets 14 = .ok (.iconst 2, 1) := by decide +kernel
theorem dX4_meets_15 : decode cX4_meets 15 = .ok (.iload_n 1, 1) := by decide +kernel
theorem dX4_meets_16 : decode cX4_meets 16 = .ok (.imul, 1) := by decide +kernel
theorem dX4_meets_17 : decode cX4_meets 17 = .ok (.iaload, 1) := by decide +kernel
theorem dX4_meets_18 : decode cX4_meets 18 = .ok (.istore 7, 2) := by decide +kernel
theorem dX4_meets_20 : decode cX4_meets 20 = .ok (.aload_n 0, 1) := by decide +kernel
theorem dX4_meets_21 : decode cX4_meets 21 = .ok (.getfield 13, 3) := by decide +kernel
theorem dX4_meets_24 : decode cX4_meets 24 = .ok (.iconst 2, 1) := by decide +kernel
theorem dX4_meets_25 : decode cX4_meets 25 = .ok (.iload_n 1, 1) := by decide +kernel
theorem dX4_meets_26 : decode cX4_meets 26 = .ok (.imul, 1) := by decide +kernel
theorem dX4_meets_27 : decode cX4_meets 27 = .ok (.iconst 1, 1) := by decide +kernel
theorem dX4_meets_28 : decode cX4_meets 28 = .ok (.iadd, 1) := by decide +kernel
theorem dX4_meets_29 : decode cX4_meets 29 = .ok (.iaload, 1) := by decide +kernel
theorem dX4_meets_30 : decode cX4_meets 30 = .ok (.istore 8, 2) := by decide +kernel
theorem dX4_meets_32 : decode cX4_meets 32 = .ok (.aload_n 0, 1) := by decide +kernel
theorem dX4_meets_33 : decode cX4_meets 33 = .ok (.getfield 17, 3) := by decide +kernel
theorem dX4_meets_36 : decode cX4_meets 36 = .ok (.iconst 2, 1) := by decide +kernel
theorem dX4_meets_37 : decode cX4_meets 37 = .ok (.iload_n 1, 1) := by decide +kernel
theorem dX4_meets_38 : decode cX4_meets 38 = .ok (.imul, 1) := by decide +kernel
theorem dX4_meets_39 : decode cX4_meets 39 = .ok (.iconst 1, 1) := by decide +kernel
theorem dX4_meets_40 : decode cX4_meets 40 = .ok (.iadd, 1) := by decide +kernel
theorem dX4_meets_41 : decode cX4_meets 41 = .ok (.iaload, 1) := by decide +kernel
theorem dX4_meets_42 : decode cX4_meets 42 = .ok (.istore 9, 2) := by decide +kernel
theorem dX4_meets_44 : decode cX4_meets 44 = .ok (.aload_n 0, 1) := by decide +kernel
theorem dX4_meets_45 : decode cX4_meets 45 = .ok (.iload_n 1, 1) := by decide +kernel
theorem dX4_meets_46 : decode cX4_meets 46 = .ok (.iload_n 2, 1) := by decide +kernel
theorem dX4_meets_47 : decode cX4_meets 47 = .ok (.iload_n 3, 1) := by decide +kernel
theorem dX4_meets_48 : decode cX4_meets 48 = .ok (.invokevirtual 57, 3) := by decide +kernel
theorem dX4_meets_51 : decode cX4_meets 51 = .ok (.ifCond .eq 17, 3) := by decide +kernel
theorem dX4_meets_54 : decode cX4_meets 54 = .ok (.aload_n 0, 1) := by decide +kernel
theorem dX4_meets_55 : decode cX4_meets 55 = .ok (.iload_n 1, 1) := by decide +kernel
theorem dX4_meets_56 : decode cX4_meets 56 = .ok (.iload 4, 2) := by decide +kernel
theorem dX4_meets_58 : decode cX4_meets 58 = .ok (.iload 5, 2) := by decide +kernel
theorem dX4_meets_60 : decode cX4_meets 60 = .ok (.invokevirtual 57, 3) := by decide +kernel
theorem dX4_meets_63 : decode cX4_meets 63 = .ok (.ifCond .eq 5, 3) := by decide +kernel
theorem dX4_meets_66 : decode cX4_meets 66 = .ok (.iconst 1, 1) := by decide +kernel
theorem dX4_meets_67 : decode cX4_meets 67 = .ok (.ireturn, 1) := by decide +kernel
theorem dX4_meets_68 : decode cX4_meets 68 = .ok (.iload_n 2, 1) := by decide +kernel
theorem dX4_meets_69 : decode cX4_meets 69 = .ok (.iload_n 3, 1) := by decide +kernel
theorem dX4_meets_70 : decode cX4_meets 70 = .ok (.iload 4, 2) := by decide +kernel
theorem dX4_meets_72 : decode cX4_meets 72 = .ok (.iload 5, 2) := by decide +kernel
theorem dX4_meets_74 : decode cX4_meets 74 = .ok (.iload 6, 2) := by decide +kernel
theorem dX4_meets_76 : decode cX4_meets 76 = .ok (.iload 7, 2) := by decide +kernel
theorem dX4_meets_78 : decode cX4_meets 78 = .ok (.invokestatic 61, 3) := by decide +kernel
theorem dX4_meets_81 : decode cX4_meets 81 = .ok (.ifCond .eq 31, 3) := by decide +kernel
theorem dX4_meets_84 : decode cX4_meets 84 = .ok (.iload 6, 2) := by decide +kernel
theorem dX4_meets_86 : decode cX4_meets 86 = .ok (.iload_n 2, 1) := by decide +kernel
theorem dX4_meets_87 : decode cX4_meets 87 = .ok (.if_icmp .ne 9, 3) := by decide +kernel
theorem dX4_meets_90 : decode cX4_meets 90 = .ok (.iload 7, 2) := by decide +kernel
theorem dX4_meets_92 : decode cX4_meets 92 = .ok (.iload_n 3, 1) := by decide +kernel
theorem dX4_meets_93 : decode cX4_meets 93 = .ok (.if_icmp .eq 19, 3) := by decide +kernel
theorem dX4_meets_96 : decode cX4_meets 96 = .ok (.iload 6, 2) := by decide +kernel
theorem dX4_meets_98 : decode cX4_meets 98 = .ok (.iload 4, 2) := by decide +kernel
theorem dX4_meets_100 : decode cX4_meets 100 = .ok (.if_icmp .ne 10, 3) := by decide +kernel
theorem dX4_meets_103 : decode cX4_meets 103 = .ok (.iload 7, 2) := by decide +kernel
theorem dX4_meets_105 : decode cX4_meets 105 = .ok (.iload 5, 2) := by decide +kernel
theorem dX4_meets_107 : decode cX4_meets 107 = .ok (.if_icmp .eq 5, 3) := by decide +kernel
theorem dX4_meets_110 : decode cX4_meets 110 = .ok (.iconst 1, 1) := by decide +kernel
theorem dX4_meets_111 : decode cX4_meets 111 = .ok (.ireturn, 1) := by decide +kernel
theorem dX4_meets_112 : decode cX4_meets 112 = .ok (.iload_n 2, 1) := by decide +kernel
theorem dX4_meets_113 : decode cX4_meets 113 = .ok (.iload_n 3, 1) := by decide +kernel
theorem dX4_meets_114 : decode cX4_meets 114 = .ok (.iload 4, 2) := by decide +kernel
theorem dX4_meets_116 : decode cX4_meets 116 = .ok (.iload 5, 2) := by decide +kernel
theorem dX4_meets_118 : decode cX4_meets 118 = .ok (.iload 8, 2) := by decide +kernel
theorem dX4_meets_120 : decode cX4_meets 120 = .ok (.iload 9, 2) := by decide +kernel
theorem dX4_meets_122 : decode cX4_meets 122 = .ok (.invokestatic 61, 3) := by decide +kernel
theorem dX4_meets_125 : decode cX4_meets 125 = .ok (.ifCond .eq 31, 3) := by decide +kernel
theorem dX4_meets_128 : decode cX4_meets 128 = .ok (.iload 8, 2) := by decide +kernel
theorem dX4_meets_130 : decode cX4_meets 130 = .ok (.iload_n 2, 1) := by decide +kernel
theorem dX4_meets_131 : decode cX4_meets 131 = .ok (.if_icmp .ne 9, 3) := by decide +kernel
theorem dX4_meets_134 : decode cX4_meets 134 = .ok (.iload 9, 2) := by decide +kernel
theorem dX4_meets_136 : decode cX4_meets 136 = .ok (.iload_n 3, 1) := by decide +kernel
theorem dX4_meets_137 : decode cX4_meets 137 = .ok (.if_icmp .eq 19, 3) := by decide +kernel
theorem dX4_meets_140 : decode cX4_meets 140 = .ok (.iload 8, 2) := by decide +kernel
theorem dX4_meets_142 : decode cX4_meets 142 = .ok (.iload 4, 2) := by decide +kernel
theorem dX4_meets_144 : decode cX4_meets 144 = .ok (.if_icmp .ne 10, 3) := by decide +kernel
theorem dX4_meets_147 : decode cX4_meets 147 = .ok (.iload 9, 2) := by decide +kernel
theorem dX4_meets_149 : decode cX4_meets 149 = .ok (.iload 5, 2) := by decide +kernel
theorem dX4_meets_151 : decode cX4_meets 151 = .ok (.if_icmp .eq 5, 3) := by decide +kernel
theorem dX4_meets_154 : decode cX4_meets 154 = .ok (.iconst 1, 1) := by decide +kernel
theorem dX4_meets_155 : decode cX4_meets 155 = .ok (.ireturn, 1) := by decide +kernel
theorem dX4_meets_156 : decode cX4_meets 156 = .ok (.iload 6, 2) := by decide +kernel
theorem dX4_meets_158 : decode cX4_meets 158 = .ok (.iload 7, 2) := by decide +kernel
theorem dX4_meets_160 : decode cX4_meets 160 = .ok (.iload 8, 2) := by decide +kernel
theorem dX4_meets_162 : decode cX4_meets 162 = .ok (.iload 9, 2) := by decide +kernel
theorem dX4_meets_164 : decode cX4_meets 164 = .ok (.iload_n 2, 1) := by decide +kernel
theorem dX4_meets_165 : decode cX4_meets 165 = .ok (.iload_n 3, 1) := by decide +kernel
theorem dX4_meets_166 : decode cX4_meets 166 = .ok (.invokestatic 61, 3) := by decide +kernel
theorem dX4_meets_169 : decode cX4_meets 169 = .ok (.ifCond .eq 13, 3) := by decide +kernel
theorem dX4_meets_172 : decode cX4_meets 172 = .ok (.aload_n 0, 1) := by decide +kernel
theorem dX4_meets_173 : decode cX4_meets 173 = .ok (.iload_n 1, 1) := by decide +kernel
theorem dX4_meets_174 : decode cX4_meets 174 = .ok (.iload_n 2, 1) := by decide +kernel
theorem dX4_meets_175 : decode cX4_meets 175 = .ok (.iload_n 3, 1) := by decide +kernel
theorem dX4_meets_176 : decode cX4_meets 176 = .ok (.invokevirtual 57, 3) := by decide +kernel
theorem dX4_meets_179 : decode cX4_meets 179 = .ok (.ifCond .eq 33, 3) := by decide +kernel
theorem dX4_meets_182 : decode cX4_meets 182 = .ok (.iload 6, 2) := by decide +kernel
theorem dX4_meets_184 : decode cX4_meets 184 = .ok (.iload 7, 2) := by decide +kernel
theorem dX4_meets_186 : decode cX4_meets 186 = .ok (.iload 8, 2) := by decide +kernel
theorem dX4_meets_188 : decode cX4_meets 188 = .ok (.iload 9, 2) := by decide +kernel
theorem dX4_meets_190 : decode cX4_meets 190 = .ok (.iload 4, 2) := by decide +kernel
theorem dX4_meets_192 : decode cX4_meets 192 = .ok (.iload 5, 2) := by decide +kernel
theorem dX4_meets_194 : decode cX4_meets 194 = .ok (.invokestatic 61, 3) := by decide +kernel
theorem dX4_meets_197 : decode cX4_meets 197 = .ok (.ifCond .eq 17, 3) := by decide +kernel
theorem dX4_meets_200 : decode cX4_meets 200 = .ok (.aload_n 0, 1) := by decide +kernel
theorem dX4_meets_201 : decode cX4_meets 201 = .ok (.iload_n 1, 1) := by decide +kernel
theorem dX4_meets_202 : decode cX4_meets 202 = .ok (.iload 4, 2) := by decide +kernel
theorem dX4_meets_204 : decode cX4_meets 204 = .ok (.iload 5, 2) := by decide +kernel
theorem dX4_meets_206 : decode cX4_meets 206 = .ok (.invokevirtual 57, 3) := by decide +kernel
theorem dX4_meets_209 : decode cX4_meets 209 = .ok (.ifCond .ne 5, 3) := by decide +kernel
theorem dX4_meets_212 : decode cX4_meets 212 = .ok (.iconst 1, 1) := by decide +kernel
theorem dX4_meets_213 : decode cX4_meets 213 = .ok (.ireturn, 1) := by decide +kernel
theorem dX4_meets_214 : decode cX4_meets 214 = .ok (.iload_n 2, 1) := by decide +kernel
theorem dX4_meets_215 : decode cX4_meets 215 = .ok (.iload_n 3, 1) := by decide +kernel
theorem dX4_meets_216 : decode cX4_meets 216 = .ok (.iload 4, 2) := by decide +kernel
theorem dX4_meets_218 : decode cX4_meets 218 = .ok (.iload 5, 2) := by decide +kernel
theorem dX4_meets_220 : decode cX4_meets 220 = .ok (.iload 6, 2) := by decide +kernel
theorem dX4_meets_222 : decode cX4_meets 222 = .ok (.iload 7, 2) := by decide +kernel
theorem dX4_meets_224 : decode cX4_meets 224 = .ok (.invokestatic 53, 3) := by decide +kernel
theorem dX4_meets_227 : decode cX4_meets 227 = .ok (.iload_n 2, 1) := by decide +kernel
theorem dX4_meets_228 : decode cX4_meets 228 = .ok (.iload_n 3, 1) := by decide +kernel
theorem dX4_meets_229 : decode cX4_meets 229 = .ok (.iload 4, 2) := by decide +kernel
theorem dX4_meets_231 : decode cX4_meets 231 = .ok (.iload 5, 2) := by decide +kernel
theorem dX4_meets_233 : decode cX4_meets 233 = .ok (.iload 8, 2) := by decide +kernel
theorem dX4_meets_235 : decode cX4_meets 235 = .ok (.iload 9, 2) := by decide +kernel
theorem dX4_meets_237 : decode cX4_meets 237 = .ok (.invokestatic 53, 3) := by decide +kernel
theorem dX4_meets_240 : decode cX4_meets 240 = .ok (.imul, 1) := by decide +kernel
theorem dX4_meets_241 : decode cX4_meets 241 = .ok (.ifCond .ge 39, 3) := by decide +kernel
theorem dX4_meets_244 : decode cX4_meets 244 = .ok (.iload 6, 2) := by decide +kernel
theorem dX4_meets_246 : decode cX4_meets 246 = .ok (.iload 7, 2) := by decide +kernel
theorem dX4_meets_248 : decode cX4_meets 248 = .ok (.iload 8, 2) := by decide +kernel
theorem dX4_meets_250 : decode cX4_meets 250 = .ok (.iload 9, 2) := by decide +kernel
theorem dX4_meets_252 : decode cX4_meets 252 = .ok (.iload_n 2, 1) := by decide +kernel
theorem dX4_meets_253 : decode cX4_meets 253 = .ok (.iload_n 3, 1) := by decide +kernel
theorem dX4_meets_254 : decode cX4_meets 254 = .ok (.invokestatic 53, 3) := by decide +kernel
theorem dX4_meets_257 : decode cX4_meets 257 = .ok (.iload 6, 2) := by decide +kernel
theorem dX4_meets_259 : decode cX4_meets 259 = .ok (.iload 7, 2) := by decide +kernel
theorem dX4_meets_261 : decode cX4_meets 261 = .ok (.iload 8, 2) := by decide +kernel
theorem dX4_meets_263 : decode cX4_meets 263 = .ok (.iload 9, 2) := by decide +kernel
theorem dX4_meets_265 : decode cX4_meets 265 = .ok (.iload 4, 2) := by decide +kernel
theorem dX4_meets_267 : decode cX4_meets 267 = .ok (.iload 5, 2) := by decide +kernel
theorem dX4_meets_269 : decode cX4_meets 269 = .ok (.invokestatic 53, 3) := by decide +kernel
theorem dX4_meets_272 : decode cX4_meets 272 = .ok (.imul, 1) := by decide +kernel
theorem dX4_meets_273 : decode cX4_meets 273 = .ok (.ifCond .ge 7, 3) := by decide +kernel
theorem dX4_meets_276 : decode cX4_meets 276 = .ok (.iconst 1, 1) := by decide +kernel
theorem dX4_meets_277 : decode cX4_meets 277 = .ok (.goto 4, 3) := by decide +kernel
theorem dX4_meets_280 : decode cX4_meets 280 = .ok (.iconst 0, 1) := by decide +kernel
theorem dX4_meets_281 : decode cX4_meets 281 = .ok (.ireturn, 1) := by decide +kernel
set_option maxRecDepth 20000 in
theorem ggX4_add_X4_isIn : GoodIn wsX4_add wsX4_isIn := goodIn_r _ [8] (by decide +kernel) (by decide +kernel)
set_option maxRecDepth 20000 in
theorem gX4_add_X4_isIn : GoodIn wsX4_add (va_wsS RX4 65 yX4_isIn wsX4_isIn) := goodIn_app (goodIn_of _ (by decide +kernel)) ggX4_add_X4_isIn
set_option maxRecDepth 20000 in
theorem ggX4_add_X4_refused : GoodIn wsX4_add wsX4_refused := goodIn_r _ [12, 13, 31, 32, 33, 34, 35, 36, 37, 38, 39, 40, 41, 42, 43, 44, 45, 46] (by decide +kernel) (by decide +kernel)
set_option maxRecDepth 20000 in
theorem gX4_add_X4_refused : GoodIn wsX4_add (wsV RX4 69 RX4 yX4_refused wsX4_refused) := goodIn_app (goodIn_of _ (by decide +kernel)) ggX4_add_X4_refused
set_option maxRecDepth 20000 in
theorem ggX4_add_X4_meets : GoodIn wsX4_add wsX4_meets := goodIn_r _ [17, 2, 3, 18, 19, 20, 7, 21, 22, 23, 24, 25, 26, 27, 28, 29, 30, 31, 32, 33, 34, 35, 36, 37, 38, 39, 40, 41, 42, 43, 44, 45, 46] (by decide +kernel) (by decide +kernel)
set_option maxRecDepth 20000 in
theorem gX4_add_X4_meets : GoodIn wsX4_add (wsV RX4 72 RX4 yX4_meets wsX4_meets) := goodIn_app (goodIn_of _ (by decide +kernel)) ggX4_add_X4_meets
theorem dX4_add_0 : decode cX4_add 0 = .ok (.iload_n 1, 1) := by decide +kernel
theorem dX4_add_1 : decode cX4_add 1 = .ok (.invokestatic 65, 3) := by decide +kernel
theorem dX4_add_4 : decode cX4_add 4 = .ok (.ifCond .eq 40, 3) := by decide +kernel
theorem dX4_add_7 : decode cX4_add 7 = .ok (.iload_n 2, 1) := by decide +kernel
theorem dX4_add_8 : decode cX4_add 8 = .ok (.invokestatic 65, 3) := by decide +kernel
theorem dX4_add_11 : decode cX4_add 11 = .ok (.ifCond .eq 33, 3) := by decide +kernel
theorem dX4_add_14 : decode cX4_add 14 = .ok (.iload_n 3, 1) := by decide +kernel
theorem dX4_add_15 : decode cX4_add 15 = .ok (.invokestatic 65, 3) := by decide +kernel
theorem dX4_add_18 : decode cX4_add 18 = .ok (.ifCond .eq 26, 3) := by decide +kernel
theorem dX4_add_21 : decode cX4_add 21 = .ok (.iload 4, 2) := by decide +kernel
theorem dX4_add_23 : decode cX4_add 23 = .ok (.invokestatic 65, 3) := by decide +kernel
theorem dX4_add_26 : decode cX4_add 26 = .ok (.ifCond .eq 18, 3) := by decide +kernel
theorem dX4_add_29 : decode cX4_add 29 = .ok (.iload_n 1, 1) := by decide +kernel
theorem dX4_add_30 : decode cX4_add 30 = .ok (.iload_n 3, 1) := by decide +kernel
theorem dX4_add_31 : decode cX4_add 31 = .ok (.if_icmp .ne 9, 3) := by decide +kernel
theorem dX4_add_34 : decode cX4_add 34 = .ok (.iload_n 2, 1) := by decide +kernel
theorem dX4_add_35 : decode cX4_add 35 = .ok (.iload 4, 2) := by decide +kernel
theorem dX4_add_37 : decode cX4_add 37 = .ok (.if_icmp .eq 7, 3) := by decide +kernel
theorem dX4_add_40 : decode cX4_add 40 = .ok (.iconst 1, 1) := by decide +kernel
theorem dX4_add_41 : decode cX4_add 41 = .ok (.goto 4, 3) := by decide +kernel
theorem dX4_add_44 : decode cX4_add 44 = .ok (.iconst 0, 1) := by decide +kernel
theorem dX4_add_45 : decode cX4_add 45 = .ok (.istore 5, 2) := by decide +kernel
theorem dX4_add_47 : decode cX4_add 47 = .ok (.iconst (-1), 1) := by decide +kernel
theorem dX4_add_48 : decode cX4_add 48 = .ok (.istore 6, 2) := by decide +kernel
theorem dX4_add_50 : decode cX4_add 50 = .ok (.bipush 59, 2) := by decide +kernel
theorem dX4_add_52 : decode cX4_add 52 = .ok (.istore 7, 2) := by decide +kernel
theorem dX4_add_54 : decode cX4_add 54 = .ok (.iload 7, 2) := by decide +kernel
theorem dX4_add_56 : decode cX4_add 56 = .ok (.ifCond .lt 28, 3) := by decide +kernel
theorem dX4_add_59 : decode cX4_add 59 = .ok (.aload_n 0, 1) := by decide +kernel
theorem dX4_add_60 : decode cX4_add 60 = .ok (.getfield 7, 3) := by decide +kernel
theorem dX4_add_63 : decode cX4_add 63 = .ok (.iload 7, 2) := by decide +kernel
theorem dX4_add_65 : decode cX4_add 65 = .ok (.baload, 1) := by decide +kernel
theorem dX4_add_66 : decode cX4_add 66 = .ok (.ifCond .eq 8, 3) := by decide +kernel
theorem dX4_add_69 : decode cX4_add 69 = .ok (.iload 6, 2) := by decide +kernel
theorem dX4_add_71 : decode cX4_add 71 = .ok (.goto 5, 3) := by decide +kernel
theorem dX4_add_74 : decode cX4_add 74 = .ok (.iload 7, 2) := by decide +kernel
theorem dX4_add_76 : decode cX4_add 76 = .ok (.istore 6, 2) := by decide +kernel
theorem dX4_add_78 : decode cX4_add 78 = .ok (.iinc 7 (-1), 3) := by decide +kernel
theorem dX4_add_81 : decode cX4_add 81 = .ok (.goto (-27), 3) := by decide +kernel
theorem dX4_add_84 : decode cX4_add 84 = .ok (.aload_n 0, 1) := by decide +kernel
theorem dX4_add_85 : decode cX4_add 85 = .ok (.iload 5, 2) := by decide +kernel
theorem dX4_add_87 : decode cX4_add 87 = .ok (.ifCond .ne 7, 3) := by decide +kernel
theorem dX4_add_90 : decode cX4_add 90 = .ok (.iconst 1, 1) := by decide +kernel
theorem dX4_add_91 : decode cX4_add 91 = .ok (.goto 13, 3) := by decide +kernel
theorem dX4_add_94 : decode cX4_add 94 = .ok (.iload 6, 2) := by decide +kernel
theorem dX4_add_96 : decode cX4_add 96 = .ok (.ifCond .ge 7, 3) := by decide +kernel
theorem dX4_add_99 : decode cX4_add 99 = .ok (.iconst 2, 1) := by decide +kernel
theorem dX4_add_100 : decode cX4_add 100 = .ok (.goto 4, 3) := by decide +kernel
theorem dX4_add_103 : decode cX4_add 103 = .ok (.iconst 0, 1) := by decide +kernel
theorem dX4_add_104 : decode cX4_add 104 = .ok (.invokevirtual 69, 3) := by decide +kernel
theorem dX4_add_107 : decode cX4_add 107 = .ok (.ifCond .eq 5, 3) := by decide +kernel
theorem dX4_add_110 : decode cX4_add 110 = .ok (.iconst 0, 1) := by decide +kernel
theorem dX4_add_111 : decode cX4_add 111 = .ok (.ireturn, 1) := by decide +kernel
theorem dX4_add_112 : decode cX4_add 112 = .ok (.iconst 0, 1) := by decide +kernel
theorem dX4_add_113 : decode cX4_add 113 = .ok (.istore 7, 2) := by decide +kernel
theorem dX4_add_115 : decode cX4_add 115 = .ok (.iload 7, 2) := by decide +kernel
theorem dX4_add_117 : decode cX4_add 117 = .ok (.bipush 60, 2) := by decide +kernel
theorem dX4_add_119 : decode cX4_add 119 = .ok (.if_icmp .ge 35, 3) := by decide +kernel
theorem dX4_add_122 : decode cX4_add 122 = .ok (.aload_n 0, 1) := by decide +kernel
theorem dX4_add_123 : decode cX4_add 123 = .ok (.getfield 7, 3) := by decide +kernel
theorem dX4_add_126 : decode cX4_add 126 = .ok (.iload 7, 2) := by decide +kernel
theorem dX4_add_128 : decode cX4_add 128 = .ok (.baload, 1) := by decide +kernel
theorem dX4_add_129 : decode cX4_add 129 = .ok (.ifCond .eq 19, 3) := by decide +kernel
theorem dX4_add_132 : decode cX4_add 132 = .ok (.aload_n 0, 1) := by decide +kernel
theorem dX4_add_133 : decode cX4_add 133 = .ok (.iload 7, 2) := by decide +kernel
theorem dX4_add_135 : decode cX4_add 135 = .ok (.iload_n 1, 1) := by decide +kernel
theorem dX4_add_136 : decode cX4_add 136 = .ok (.iload_n 2, 1) := by decide +kernel
theorem dX4_add_137 : decode cX4_add 137 = .ok (.iload_n 3, 1) := by decide +kernel
theorem dX4_add_138 : decode cX4_add 138 = .ok (.iload 4, 2) := by decide +kernel
theorem dX4_add_140 : decode cX4_add 140 = .ok (.invokevirtual 72, 3) := by decide +kernel
theorem dX4_add_143 : decode cX4_add 143 = .ok (.ifCond .eq 5, 3) := by decide +kernel
theorem dX4_add_146 : decode cX4_add 146 = .ok (.iconst (-1), 1) := by decide +kernel
theorem dX4_add_147 : decode cX4_add 147 = .ok (.ireturn, 1) := by decide +kernel
theorem dX4_add_148 : decode cX4_add 148 = .ok (.iinc 7 1, 3) := by decide +kernel
theorem dX4_add_151 : decode cX4_add 151 = .ok (.goto (-36), 3) := by decide +kernel
theorem dX4_add_154 : decode cX4_add 154 = .ok (.aload_n 0, 1) := by decide +kernel
theorem dX4_add_155 : decode cX4_add 155 = .ok (.getfield 7, 3) := by decide +kernel
theorem dX4_add_158 : decode cX4_add 158 = .ok (.iload 6, 2) := by decide +kernel
theorem dX4_add_160 : decode cX4_add 160 = .ok (.iconst 1, 1) := by decide +kernel
theorem dX4_add_161 : decode cX4_add 161 = .ok (.bastore, 1) := by decide +kernel
theorem dX4_add_162 : decode cX4_add 162 = .ok (.aload_n 0, 1) := by decide +kernel
theorem dX4_add_163 : decode cX4_add 163 = .ok (.getfield 13, 3) := by decide +kernel
theorem dX4_add_166 : decode cX4_add 166 = .ok (.iconst 2, 1) := by decide +kernel
theorem dX4_add_167 : decode cX4_add 167 = .ok (.iload 6, 2) := by decide +kernel
theorem dX4_add_169 : decode cX4_add 169 = .ok (.imul, 1) := by decide +kernel
theorem dX4_add_170 : decode cX4_add 170 = .ok (.iload_n 1, 1) := by decide +kernel
theorem dX4_add_171 : decode cX4_add 171 = .ok (.iastore, 1) := by decide +kernel
theorem dX4_add_172 : decode cX4_add 172 = .ok (.aload_n 0, 1) := by decide +kernel
theorem dX4_add_173 : decode cX4_add 173 = .ok (.getfield 17, 3) := by decide +kernel
theorem dX4_add_176 : decode cX4_add 176 = .ok (.iconst 2, 1) := by decide +kernel
theorem dX4_add_177 : decode cX4_add 177 = .ok (.iload 6, 2) := by decide +kernel
theorem dX4_add_179 : decode cX4_add 179 = .ok (.imul, 1) := by decide +kernel
theorem dX4_add_180 : decode cX4_add 180 = .ok (.iload_n 2, 1) := by decide +kernel
theorem dX4_add_181 : decode cX4_add 181 = .ok (.iastore, 1) := by decide +kernel
theorem dX4_add_182 : decode cX4_add 182 = .ok (.aload_n 0, 1) := by decide +kernel
theorem dX4_add_183 : decode cX4_add 183 = .ok (.getfield 13, 3) := by decide +kernel
theorem dX4_add_186 : decode cX4_add 186 = .ok (.iconst 2, 1) := by decide +kernel
theorem dX4_add_187 : decode cX4_add 187 = .ok (.iload 6, 2) := by decide +kernel
theorem dX4_add_189 : decode cX4_add 189 = .ok (.imul, 1) := by decide +kernel
theorem dX4_add_190 : decode cX4_add 190 = .ok (.iconst 1, 1) := by decide +kernel
theorem dX4_add_191 : decode cX4_add 191 = .ok (.iadd, 1) := by decide +kernel
theorem dX4_add_192 : decode cX4_add 192 = .ok (.iload_n 3, 1) := by decide +kernel
theorem dX4_add_193 : decode cX4_add 193 = .ok (.iastore, 1) := by decide +kernel
theorem dX4_add_194 : decode cX4_add 194 = .ok (.aload_n 0, 1) := by decide +kernel
theorem dX4_add_195 : decode cX4_add 195 = .ok (.getfield 17, 3) := by decide +kernel
theorem dX4_add_198 : decode cX4_add 198 = .ok (.iconst 2, 1) := by decide +kernel
theorem dX4_add_199 : decode cX4_add 199 = .ok (.iload 6, 2) := by decide +kernel
theorem dX4_add_201 : decode cX4_add 201 = .ok (.imul, 1) := by decide +kernel
theorem dX4_add_202 : decode cX4_add 202 = .ok (.iconst 1, 1) := by decide +kernel
theorem dX4_add_203 : decode cX4_add 203 = .ok (.iadd, 1) := by decide +kernel
theorem dX4_add_204 : decode cX4_add 204 = .ok (.iload 4, 2) := by decide +kernel
theorem dX4_add_206 : decode cX4_add 206 = .ok (.iastore, 1) := by decide +kernel
theorem dX4_add_207 : decode cX4_add 207 = .ok (.aload_n 0, 1) := by decide +kernel
theorem dX4_add_208 : decode cX4_add 208 = .ok (.iconst 0, 1) := by decide +kernel
theorem dX4_add_209 : decode cX4_add 209 = .ok (.putfield 76, 3) := by decide +kernel
theorem dX4_add_212 : decode cX4_add 212 = .ok (.iload 6, 2) := by decide +kernel
theorem dX4_add_214 : decode cX4_add 214 = .ok (.ireturn, 1) := by decide +kernel
theorem dX4_remove_0 : decode cX4_remove 0 = .ok (.aload_n 0, 1) := by decide +kernel
theorem dX4_remove_1 : decode cX4_remove 1 = .ok (.iconst 0, 1) := by decide +kernel
theorem dX4_remove_2 : decode cX4_remove 2 = .ok (.putfield 45, 3) := by decide +kernel
theorem dX4_remove_5 : decode cX4_remove 5 = .ok (.iload_n 1, 1) := by decide +kernel
theorem dX4_remove_6 : decode cX4_remove 6 = .ok (.ifCond .lt 22, 3) := by decide +kernel
theorem dX4_remove_9 : decode cX4_remove 9 = .ok (.iload_n 1, 1) := by decide +kernel
theorem dX4_remove_10 : decode cX4_remove 10 = .ok (.bipush 60, 2) := by decide +kernel
theorem dX4_remove_12 : decode cX4_remove 12 = .ok (.if_icmp .ge 16, 3) := by decide +kernel
theorem dX4_remove_15 : decode cX4_remove 15 = .ok (.aload_n 0, 1) := by decide +kernel
theorem dX4_remove_16 : decode cX4_remove 16 = .ok (.getfield 7, 3) := by decide +kernel
theorem dX4_remove_19 : decode cX4_remove 19 = .ok (.iload_n 1, 1) := by decide +kernel
theorem dX4_remove_20 : decode cX4_remove 20 = .ok (.baload, 1) := by decide +kernel
theorem dX4_remove_21 : decode cX4_remove 21 = .ok (.ifCond .eq 7, 3) := by decide +kernel
theorem dX4_remove_24 : decode cX4_remove 24 = .ok (.iconst 1, 1) := by decide +kernel
theorem dX4_remove_25 : decode cX4_remove 25 = .ok (.goto 4, 3) := by decide +kernel
theorem dX4_remove_28 : decode cX4_remove 28 = .ok (.iconst 0, 1) := by decide +kernel
theorem dX4_remove_29 : decode cX4_remove 29 = .ok (.istore_n 2, 1) := by decide +kernel
theorem dX4_remove_30 : decode cX4_remove 30 = .ok (.iload_n 2, 1) := by decide +kernel
theorem dX4_remove_31 : decode cX4_remove 31 = .ok (.ifCond .eq 15, 3) := by decide +kernel
theorem dX4_remove_34 : decode cX4_remove 34 = .ok (.aload_n 0, 1) := by decide +kernel
theorem dX4_remove_35 : decode cX4_remove 35 = .ok (.getfield 7, 3) := by decide +kernel
theorem dX4_remove_38 : decode cX4_remove 38 = .ok (.iload_n 1, 1) := by decide +kernel
theorem dX4_remove_39 : decode cX4_remove 39 = .ok (.iconst 0, 1) := by decide +kernel
theorem dX4_remove_40 : decode cX4_remove 40 = .ok (.bastore, 1) := by decide +kernel
theorem dX4_remove_41 : decode cX4_remove 41 = .ok (.aload_n 0, 1) := by decide +kernel
theorem dX4_remove_42 : decode cX4_remove 42 = .ok (.iconst 0, 1) := by decide +kernel
theorem dX4_remove_43 : decode cX4_remove 43 = .ok (.putfield 76, 3) := by decide +kernel
theorem dX4_remove_46 : decode cX4_remove 46 = .ok (.iload_n 2, 1) := by decide +kernel
theorem dX4_remove_47 : decode cX4_remove 47 = .ok (.ireturn, 1) := by decide +kernel
theorem dX4_clear_0 : decode cX4_clear 0 = .ok (.aload_n 0, 1) := by decide +kernel
theorem dX4_clear_1 : decode cX4_clear 1 = .ok (.iconst 0, 1) := by decide +kernel
theorem dX4_clear_2 : decode cX4_clear 2 = .ok (.putfield 45, 3) := by decide +kernel
theorem dX4_clear_5 : decode cX4_clear 5 = .ok (.iconst 0, 1) := by decide +kernel
theorem dX4_clear_6 : decode cX4_clear 6 = .ok (.istore_n 1, 1) := by decide +kernel
theorem dX4_clear_7 : decode cX4_clear 7 = .ok (.iconst 0, 1) := by decide +kernel
theorem dX4_clear_8 : decode cX4_clear 8 = .ok (.istore_n 2, 1) := by decide +kernel
theorem dX4_clear_9 : decode cX4_clear 9 = .ok (.iload_n 2, 1) := by decide +kernel
theorem dX4_clear_10 : decode cX4_clear 10 = .ok (.bipush 60, 2) := by decide +kernel
theorem dX4_clear_12 : decode cX4_clear 12 = .ok (.if_icmp .ge 33, 3) := by decide +kernel
theorem dX4_clear_15 : decode cX4_clear 15 = .ok (.aload_n 0, 1) := by decide +kernel
theorem dX4_clear_16 : decode cX4_clear 16 = .ok (.getfield 7, 3) := by decide +kernel
theorem dX4_clear_19 : decode cX4_clear 19 = .ok (.iload_n 2, 1) := by decide +kernel
theorem dX4_clear_20 : decode cX4_clear 20 = .ok (.baload, 1) := by decide +kernel
theorem dX4_clear_21 : decode cX4_clear 21 = .ok (.ifCond .eq 9, 3) := by decide +kernel
theorem dX4_clear_24 : decode cX4_clear 24 = .ok (.iload_n 1, 1) := by decide +kernel
theorem dX4_clear_25 : decode cX4_clear 25 = .ok (.iconst 1, 1) := by decide +kernel
theorem dX4_clear_26 : decode cX4_clear 26 = .ok (.iadd, 1) := by decide +kernel
theorem dX4_clear_27 : decode cX4_clear 27 = .ok (.goto 4, 3) := by decide +kernel
theorem dX4_clear_30 : decode cX4_clear 30 = .ok (.iload_n 1, 1) := by decide +kernel
theorem dX4_clear_31 : decode cX4_clear 31 = .ok (.istore_n 1, 1) := by decide +kernel
theorem dX4_clear_32 : decode cX4_clear 32 = .ok (.aload_n 0, 1) := by decide +kernel
theorem dX4_clear_33 : decode cX4_clear 33 = .ok (.getfield 7, 3) := by decide +kernel
theorem dX4_clear_36 : decode cX4_clear 36 = .ok (.iload_n 2, 1) := by decide +kernel
theorem dX4_clear_37 : decode cX4_clear 37 = .ok (.iconst 0, 1) := by decide +kernel
theorem dX4_clear_38 : decode cX4_clear 38 = .ok (.bastore, 1) := by decide +kernel
theorem dX4_clear_39 : decode cX4_clear 39 = .ok (.iinc 2 1, 3) := by decide +kernel
theorem dX4_clear_42 : decode cX4_clear 42 = .ok (.goto (-33), 3) := by decide +kernel
theorem dX4_clear_45 : decode cX4_clear 45 = .ok (.aload_n 0, 1) := by decide +kernel
theorem dX4_clear_46 : decode cX4_clear 46 = .ok (.iconst 0, 1) := by decide +kernel
theorem dX4_clear_47 : decode cX4_clear 47 = .ok (.putfield 76, 3) := by decide +kernel
theorem dX4_clear_50 : decode cX4_clear 50 = .ok (.iload_n 1, 1) := by decide +kernel
theorem dX4_clear_51 : decode cX4_clear 51 = .ok (.ireturn, 1) := by decide +kernel
theorem dX4_isHalf_0 : decode cX4_isHalf 0 = .ok (.iload_n 1, 1) := by decide +kernel
theorem dX4_isHalf_1 : decode cX4_isHalf 1 = .ok (.ifCond .lt 24, 3) := by decide +kernel
theorem dX4_isHalf_4 : decode cX4_isHalf 4 = .ok (.iload_n 1, 1) := by decide +kernel
theorem dX4_isHalf_5 : decode cX4_isHalf 5 = .ok (.bipush 120, 2) := by decide +kernel
theorem dX4_isHalf_7 : decode cX4_isHalf 7 = .ok (.if_icmp .ge 18, 3) := by decide +kernel
theorem dX4_isHalf_10 : decode cX4_isHalf 10 = .ok (.aload_n 0, 1) := by decide +kernel
theorem dX4_isHalf_11 : decode cX4_isHalf 11 = .ok (.getfield 7, 3) := by decide +kernel
theorem dX4_isHalf_14 : decode cX4_isHalf 14 = .ok (.iload_n 1, 1) := by decide +kernel
theorem dX4_isHalf_15 : decode cX4_isHalf 15 = .ok (.iconst 2, 1) := by decide +kernel
theorem dX4_isHalf_16 : decode cX4_isHalf 16 = .ok (.idiv, 1) := by decide +kernel
theorem dX4_isHalf_17 : decode cX4_isHalf 17 = .ok (.baload, 1) := by decide +kernel
theorem dX4_isHalf_18 : decode cX4_isHalf 18 = .ok (.ifCond .eq 7, 3) := by decide +kernel
theorem dX4_isHalf_21 : decode cX4_isHalf 21 = .ok (.iconst 1, 1) := by decide +kernel
theorem dX4_isHalf_22 : decode cX4_isHalf 22 = .ok (.goto 4, 3) := by decide +kernel
theorem dX4_isHalf_25 : decode cX4_isHalf 25 = .ok (.iconst 0, 1) := by decide +kernel
theorem dX4_isHalf_26 : decode cX4_isHalf 26 = .ok (.ireturn, 1) := by decide +kernel
theorem dX4_back_0 : decode cX4_back 0 = .ok (.iload_n 0, 1) := by decide +kernel
theorem dX4_back_1 : decode cX4_back 1 = .ok (.iconst 2, 1) := by decide +kernel
theorem dX4_back_2 : decode cX4_back 2 = .ok (.irem, 1) := by decide +kernel
theorem dX4_back_3 : decode cX4_back 3 = .ok (.ifCond .ne 9, 3) := by decide +kernel
theorem dX4_back_6 : decode cX4_back 6 = .ok (.iload_n 0, 1) := by decide +kernel
theorem dX4_back_7 : decode cX4_back 7 = .ok (.iconst 1, 1) := by decide +kernel
theorem dX4_back_8 : decode cX4_back 8 = .ok (.iadd, 1) := by decide +kernel
theorem dX4_back_9 : decode cX4_back 9 = .ok (.goto 6, 3) := by decide +kernel
theorem dX4_back_12 : decode cX4_back 12 = .ok (.iload_n 0, 1) := by decide +kernel
theorem dX4_back_13 : decode cX4_back 13 = .ok (.iconst 1, 1) := by decide +kernel
theorem dX4_back_14 : decode cX4_back 14 = .ok (.isub, 1) := by decide +kernel
theorem dX4_back_15 : decode cX4_back 15 = .ok (.ireturn, 1) := by decide +kernel
theorem dX4_leaves_0 : decode cX4_leaves 0 = .ok (.aload_n 0, 1) := by decide +kernel
theorem dX4_leaves_1 : decode cX4_leaves 1 = .ok (.getfield 7, 3) := by decide +kernel
theorem dX4_leaves_4 : decode cX4_leaves 4 = .ok (.iload_n 1, 1) := by decide +kernel
theorem dX4_leaves_5 : decode cX4_leaves 5 = .ok (.iconst 2, 1) := by decide +kernel
theorem dX4_leaves_6 : decode cX4_leaves 6 = .ok (.idiv, 1) := by decide +kernel
theorem dX4_leaves_7 : decode cX4_leaves 7 = .ok (.baload, 1) := by decide +kernel
theorem dX4_leaves_8 : decode cX4_leaves 8 = .ok (.ifCond .eq 27, 3) := by decide +kernel
theorem dX4_leaves_11 : decode cX4_leaves 11 = .ok (.aload_n 0, 1) := by decide +kernel
theorem dX4_leaves_12 : decode cX4_leaves 12 = .ok (.getfield 13, 3) := by decide +kernel
theorem dX4_leaves_15 : decode cX4_leaves 15 = .ok (.iload_n 1, 1) := by decide +kernel
theorem dX4_leaves_16 : decode cX4_leaves 16 = .ok (.iaload, 1) := by decide +kernel
theorem dX4_leaves_17 : decode cX4_leaves 17 = .ok (.iload_n 2, 1) := by decide +kernel
theorem dX4_leaves_18 : decode cX4_leaves 18 = .ok (.if_icmp .ne 17, 3) := by decide +kernel
theorem dX4_leaves_21 : decode cX4_leaves 21 = .ok (.aload_n 0, 1) := by decide +kernel
theorem dX4_leaves_22 : decode cX4_leaves 22 = .ok (.getfield 17, 3) := by decide +kernel
theorem dX4_leaves_25 : decode cX4_leaves 25 = .ok (.iload_n 1, 1) := by decide +kernel
theorem dX4_leaves_26 : decode cX4_leaves 26 = .ok (.iaload, 1) := by decide +kernel
theorem dX4_leaves_27 : decode cX4_leaves 27 = .ok (.iload_n 3, 1) := by decide +kernel
theorem dX4_leaves_28 : decode cX4_leaves 28 = .ok (.if_icmp .ne 7, 3) := by decide +kernel
theorem dX4_leaves_31 : decode cX4_leaves 31 = .ok (.iconst 1, 1) := by decide +kernel
theorem dX4_leaves_32 : decode cX4_leaves 32 = .ok (.goto 4, 3) := by decide +kernel
theorem dX4_leaves_35 : decode cX4_leaves 35 = .ok (.iconst 0, 1) := by decide +kernel
theorem dX4_leaves_36 : decode cX4_leaves 36 = .ok (.ireturn, 1) := by decide +kernel
set_option maxRecDepth 20000 in
theorem ggX4_crossOf_X4_back : GoodIn wsX4_crossOf wsX4_back := goodIn_r _ [6] (by decide +kernel) (by decide +kernel)
set_option maxRecDepth 20000 in
theorem gX4_crossOf_X4_back : GoodIn wsX4_crossOf (va_wsS RX4 80 yX4_back wsX4_back) := goodIn_app (goodIn_of _ (by decide +kernel)) ggX4_crossOf_X4_back
theorem dX4_crossOf_0 : decode cX4_crossOf 0 = .ok (.aload_n 0, 1) := by decide +kernel
theorem dX4_crossOf_1 : decode cX4_crossOf 1 = .ok (.getfield 13, 3) := by decide +kernel
theorem dX4_crossOf_4 : decode cX4_crossOf 4 = .ok (.iload_n 1, 1) := by decide +kernel
theorem dX4_crossOf_5 : decode cX4_crossOf 5 = .ok (.invokestatic 80, 3) := by decide +kernel
theorem dX4_crossOf_8 : decode cX4_crossOf 8 = .ok (.iaload, 1) := by decide +kernel
theorem dX4_crossOf_9 : decode cX4_crossOf 9 = .ok (.aload_n 0, 1) := by decide +kernel
theorem dX4_crossOf_10 : decode cX4_crossOf 10 = .ok (.getfield 13, 3) := by decide +kernel
theorem dX4_crossOf_13 : decode cX4_crossOf 13 = .ok (.iload_n 1, 1) := by decide +kernel
theorem dX4_crossOf_14 : decode cX4_crossOf 14 = .ok (.iaload, 1) := by decide +kernel
theorem dX4_crossOf_15 : decode cX4_crossOf 15 = .ok (.isub, 1) := by decide +kernel
theorem dX4_crossOf_16 : decode cX4_crossOf 16 = .ok (.i2l, 1) := by decide +kernel
theorem dX4_crossOf_17 : decode cX4_crossOf 17 = .ok (.lstore_n 3, 1) := by decide +kernel
theorem dX4_crossOf_18 : decode cX4_crossOf 18 = .ok (.aload_n 0, 1) := by decide +kernel
theorem dX4_crossOf_19 : decode cX4_crossOf 19 = .ok (.getfield 17, 3) := by decide +kernel
theorem dX4_crossOf_22 : decode cX4_crossOf 22 = .ok (.iload_n 1, 1) := by decide +kernel
theorem dX4_crossOf_23 : decode cX4_crossOf 23 = .ok (.invokestatic 80, 3) := by decide +kernel
theorem dX4_crossOf_26 : decode cX4_crossOf 26 = .ok (.iaload, 1) := by decide +kernel
theorem dX4_crossOf_27 : decode cX4_crossOf 27 = .ok (.aload_n 0, 1) := by decide +kernel
theorem dX4_crossOf_28 : decode cX4_crossOf 28 = .ok (.getfield 17, 3) := by decide +kernel
theorem dX4_crossOf_31 : decode cX4_crossOf 31 = .ok (.iload_n 1, 1) := by decide +kernel
theorem dX4_crossOf_32 : decode cX4_crossOf 32 = .ok (.iaload, 1) := by decide +kernel
theorem dX4_crossOf_33 : decode cX4_crossOf 33 = .ok (.isub, 1) := by decide +kernel
theorem dX4_crossOf_34 : decode cX4_crossOf 34 = .ok (.i2l, 1) := by decide +kernel
theorem dX4_crossOf_35 : decode cX4_crossOf 35 = .ok (.lstore 5, 2) := by decide +kernel
theorem dX4_crossOf_37 : decode cX4_crossOf 37 = .ok (.aload_n 0, 1) := by decide +kernel
theorem dX4_crossOf_38 : decode cX4_crossOf 38 = .ok (.getfield 13, 3) := by decide +kernel
theorem dX4_crossOf_41 : decode cX4_crossOf 41 = .ok (.iload_n 2, 1) := by decide +kernel
theorem dX4_crossOf_42 : decode cX4_crossOf 42 = .ok (.invokestatic 80, 3) := by decide +kernel
theorem dX4_crossOf_45 : decode cX4_crossOf 45 = .ok (.iaload, 1) := by decide +kernel
theorem dX4_crossOf_46 : decode cX4_crossOf 46 = .ok (.aload_n 0, 1) := by decide +kernel
theorem dX4_crossOf_47 : decode cX4_crossOf 47 = .ok (.getfield 13, 3) := by decide +kernel
theorem dX4_crossOf_50 : decode cX4_crossOf 50 = .ok (.iload_n 2, 1) := by decide +kernel
theorem dX4_crossOf_51 : decode cX4_crossOf 51 = .ok (.iaload, 1) := by decide +kernel
theorem dX4_crossOf_52 : decode cX4_crossOf 52 = .ok (.isub, 1) := by decide +kernel
theorem dX4_crossOf_53 : decode cX4_crossOf 53 = .ok (.i2l, 1) := by decide +kernel
theorem dX4_crossOf_54 : decode cX4_crossOf 54 = .ok (.lstore 7, 2) := by decide +kernel
theorem dX4_crossOf_56 : decode cX4_crossOf 56 = .ok (.aload_n 0, 1) := by decide +kernel
theorem dX4_crossOf_57 : decode cX4_crossOf 57 = .ok (.getfield 17, 3) := by decide +kernel
theorem dX4_crossOf_60 : decode cX4_crossOf 60 = .ok (.iload_n 2, 1) := by decide +kernel
theorem dX4_crossOf_61 : decode cX4_crossOf 61 = .ok (.invokestatic 80, 3) := by decide +kernel
theorem dX4_crossOf_64 : decode cX4_crossOf 64 = .ok (.iaload, 1) := by decide +kernel
theorem dX4_crossOf_65 : decode cX4_crossOf 65 = .ok (.aload_n 0, 1) := by decide +kernel
theorem dX4_crossOf_66 : decode cX4_crossOf 66 = .ok (.getfield 17, 3) := by decide +kernel
theorem dX4_crossOf_69 : decode cX4_crossOf 69 = .ok (.iload_n 2, 1) := by decide +kernel
theorem dX4_crossOf_70 : decode cX4_crossOf 70 = .ok (.iaload, 1) := by decide +kernel
theorem dX4_crossOf_71 : decode cX4_crossOf 71 = .ok (.isub, 1) := by decide +kernel
theorem dX4_crossOf_72 : decode cX4_crossOf 72 = .ok (.i2l, 1) := by decide +kernel
theorem dX4_crossOf_73 : decode cX4_crossOf 73 = .ok (.lstore 9, 2) := by decide +kernel
theorem dX4_crossOf_75 : decode cX4_crossOf 75 = .ok (.lload_n 3, 1) := by decide +kernel
theorem dX4_crossOf_76 : decode cX4_crossOf 76 = .ok (.lload 9, 2) := by decide +kernel
theorem dX4_crossOf_78 : decode cX4_crossOf 78 = .ok (.lmul, 1) := by decide +kernel
theorem dX4_crossOf_79 : decode cX4_crossOf 79 = .ok (.lload 5, 2) := by decide +kernel
theorem dX4_crossOf_81 : decode cX4_crossOf 81 = .ok (.lload 7, 2) := by decide +kernel
theorem dX4_crossOf_83 : decode cX4_crossOf 83 = .ok (.lmul, 1) := by decide +kernel
theorem dX4_crossOf_84 : decode cX4_crossOf 84 = .ok (.lsub, 1) := by decide +kernel
theorem dX4_crossOf_85 : decode cX4_crossOf 85 = .ok (.lreturn, 1) := by decide +kernel
set_option maxRecDepth 20000 in
theorem ggX4_turned_X4_crossOf : GoodIn wsX4_turned wsX4_crossOf := goodIn_r _ [5, 6, 7, 8, 9, 4, 10, 11, 12, 13, 14, 15, 16, 17, 18, 19, 20, 21, 22, 23, 24, 25, 26] (by decide +kernel) (by decide +kernel)
set_option maxRecDepth 20000 in
theorem gX4_turned_X4_crossOf : GoodIn wsX4_turned (wsV RX4 84 RX4 yX4_crossOf wsX4_crossOf) := goodIn_app (goodIn_of _ (by decide +kernel)) ggX4_turned_X4_crossOf
theorem dX4_turned_0 : decode cX4_turned 0 = .ok (.aload_n 0, 1) := by decide +kernel
theorem dX4_turned_1 : decode cX4_turned 1 = .ok (.iload_n 1, 1) := by decide +kernel
theorem dX4_turned_2 : decode cX4_turned 2 = .ok (.iload_n 2, 1) := by decide +kernel
theorem dX4_turned_3 : decode cX4_turned 3 = .ok (.invokevirtual 84, 3) := by decide +kernel
theorem dX4_turned_6 : decode cX4_turned 6 = .ok (.lstore_n 3, 1) := by decide +kernel
theorem dX4_turned_7 : decode cX4_turned 7 = .ok (.lload_n 3, 1) := by decide +kernel
theorem dX4_turned_8 : decode cX4_turned 8 = .ok (.lconst 0, 1) := by decide +kernel
theorem dX4_turned_9 : decode cX4_turned 9 = .ok (.lcmp, 1) := by decide +kernel
theorem dX4_turned_10 : decode cX4_turned 10 = .ok (.ifCond .ge 7, 3) := by decide +kernel
theorem dX4_turned_13 : decode cX4_turned 13 = .ok (.iconst 0, 1) := by decide +kernel
theorem dX4_turned_14 : decode cX4_turned 14 = .ok (.goto 14, 3) := by decide +kernel
theorem dX4_turned_17 : decode cX4_turned 17 = .ok (.lload_n 3, 1) := by decide +kernel
theorem dX4_turned_18 : decode cX4_turned 18 = .ok (.lconst 0, 1) := by decide +kernel
theorem dX4_turned_19 : decode cX4_turned 19 = .ok (.lcmp, 1) := by decide +kernel
theorem dX4_turned_20 : decode cX4_turned 20 = .ok (.ifCond .ne 7, 3) := by decide +kernel
theorem dX4_turned_23 : decode cX4_turned 23 = .ok (.iconst 1, 1) := by decide +kernel
theorem dX4_turned_24 : decode cX4_turned 24 = .ok (.goto 4, 3) := by decide +kernel
theorem dX4_turned_27 : decode cX4_turned 27 = .ok (.iconst 2, 1) := by decide +kernel
theorem dX4_turned_28 : decode cX4_turned 28 = .ok (.ireturn, 1) := by decide +kernel
set_option maxRecDepth 20000 in
theorem ggX4_nextOf_X4_back : GoodIn wsX4_nextOf wsX4_back := goodIn_r _ [6] (by decide +kernel) (by decide +kernel)
set_option maxRecDepth 20000 in
theorem gX4_nextOf_X4_back : GoodIn wsX4_nextOf (va_wsS RX4 80 yX4_back wsX4_back) := goodIn_app (goodIn_of _ (by decide +kernel)) ggX4_nextOf_X4_back
set_option maxRecDepth 20000 in
theorem ggX4_nextOf_X4_leaves : GoodIn wsX4_nextOf wsX4_leaves := goodIn_r _ [10, 11, 1, 2, 20, 21, 22, 23, 24, 25, 26, 27, 28, 29, 30, 31, 32, 33, 34, 35] (by decide +kernel) (by decide +kernel)
set_option maxRecDepth 20000 in
theorem gX4_nextOf_X4_leaves : GoodIn wsX4_nextOf (wsV RX4 88 RX4 yX4_leaves wsX4_leaves) := goodIn_app (goodIn_of _ (by decide +kernel)) ggX4_nextOf_X4_leaves
set_option maxRecDepth 20000 in
theorem ggX4_nextOf_X4_turned : GoodIn wsX4_nextOf wsX4_turned := goodIn_r _ [15, 16, 17, 18, 5, 19, 1, 2, 3, 4, 6, 20, 21, 22, 23, 24, 25, 26, 27, 28, 29, 30, 31, 32, 33, 34, 35] (by decide +kernel) (by decide +kernel)
set_option maxRecDepth 20000 in
theorem gX4_nextOf_X4_turned : GoodIn wsX4_nextOf (wsV RX4 91 RX4 yX4_turned wsX4_turned) := goodIn_app (goodIn_of _ (by decide +kernel)) ggX4_nextOf_X4_turned
set_option maxRecDepth 20000 in
theorem ggX4_nextOf_X4_crossOf : GoodIn wsX4_nextOf wsX4_crossOf := goodIn_r _ [19, 1, 2, 3, 4, 5, 6, 20, 21, 22, 23, 24, 25, 26, 27, 28, 29, 30, 31, 32, 33, 34, 35] (by decide +kernel) (by decide +kernel)
set_option maxRecDepth 20000 in
theorem gX4_nextOf_X4_crossOf : GoodIn wsX4_nextOf (wsV RX4 84 RX4 yX4_crossOf wsX4_crossOf) := goodIn_app (goodIn_of _ (by decide +kernel)) ggX4_nextOf_X4_crossOf
theorem dX4_nextOf_0 : decode cX4_nextOf 0 = .ok (.iload_n 1, 1) := by decide +kernel
theorem dX4_nextOf_1 : decode cX4_nextOf 1 = .ok (.invokestatic 80, 3) := by decide +kernel
theorem dX4_nextOf_4 : decode cX4_nextOf 4 = .ok (.istore_n 2, 1) := by decide +kernel
theorem dX4_nextOf_5 : decode cX4_nextOf 5 = .ok (.iconst (-1), 1) := by decide +kernel
theorem dX4_nextOf_6 : decode cX4_nextOf 6 = .ok (.istore_n 3, 1) := by decide +kernel
theorem dX4_nextOf_7 : decode cX4_nextOf 7 = .ok (.iconst 0, 1) := by decide +kernel
theorem dX4_nextOf_8 : decode cX4_nextOf 8 = .ok (.istore 4, 2) := by decide +kernel
theorem dX4_nextOf_10 : decode cX4_nextOf 10 = .ok (.iload 4, 2) := by decide +kernel
theorem dX4_nextOf_12 : decode cX4_nextOf 12 = .ok (.bipush 120, 2) := by decide +kernel
theorem dX4_nextOf_14 : decode cX4_nextOf 14 = .ok (.if_icmp .ge 103, 3) := by decide +kernel
theorem dX4_nextOf_17 : decode cX4_nextOf 17 = .ok (.iload 4, 2) := by decide +kernel
theorem dX4_nextOf_19 : decode cX4_nextOf 19 = .ok (.iload_n 2, 1) := by decide +kernel
theorem dX4_nextOf_20 : decode cX4_nextOf 20 = .ok (.if_icmp .eq 91, 3) := by decide +kernel
theorem dX4_nextOf_23 : decode cX4_nextOf 23 = .ok (.aload_n 0, 1) := by decide +kernel
theorem dX4_nextOf_24 : decode cX4_nextOf 24 = .ok (.iload 4, 2) := by decide +kernel
theorem dX4_nextOf_26 : decode cX4_nextOf 26 = .ok (.aload_n 0, 1) := by decide +kernel
theorem dX4_nextOf_27 : decode cX4_nextOf 27 = .ok (.getfield 13, 3) := by decide +kernel
theorem dX4_nextOf_30 : decode cX4_nextOf 30 = .ok (.iload_n 2, 1) := by decide +kernel
theorem dX4_nextOf_31 : decode cX4_nextOf 31 = .ok (.iaload, 1) := by decide +kernel
theorem dX4_nextOf_32 : decode cX4_nextOf 32 = .ok (.aload_n 0, 1) := by decide +kernel
theorem dX4_nextOf_33 : decode cX4_nextOf 33 = .ok (.getfield 17, 3) := by decide +kernel
theorem dX4_nextOf_36 : decode cX4_nextOf 36 = .ok (.iload_n 2, 1) := by decide +kernel
theorem dX4_nextOf_37 : decode cX4_nextOf 37 = .ok (.iaload, 1) := by decide +kernel
theorem dX4_nextOf_38 : decode cX4_nextOf 38 = .ok (.invokevirtual 88, 3) := by decide +kernel
theorem dX4_nextOf_41 : decode cX4_nextOf 41 = .ok (.ifCond .eq 70, 3) := by decide +kernel
theorem dX4_nextOf_44 : decode cX4_nextOf 44 = .ok (.iload_n 3, 1) := by decide +kernel
theorem dX4_nextOf_45 : decode cX4_nextOf 45 = .ok (.ifCond .lt 47, 3) := by decide +kernel
theorem dX4_nextOf_48 : decode cX4_nextOf 48 = .ok (.aload_n 0, 1) := by decide +kernel
theorem dX4_nextOf_49 : decode cX4_nextOf 49 = .ok (.iload_n 2, 1) := by decide +kernel
theorem dX4_nextOf_50 : decode cX4_nextOf 50 = .ok (.iload 4, 2) := by decide +kernel
theorem dX4_nextOf_52 : decode cX4_nextOf 52 = .ok (.invokevirtual 91, 3) := by decide +kernel
theorem dX4_nextOf_55 : decode cX4_nextOf 55 = .ok (.aload_n 0, 1) := by decide +kernel
theorem dX4_nextOf_56 : decode cX4_nextOf 56 = .ok (.iload_n 2, 1) := by decide +kernel
theorem dX4_nextOf_57 : decode cX4_nextOf 57 = .ok (.iload_n 3, 1) := by decide +kernel
theorem dX4_nextOf_58 : decode cX4_nextOf 58 = .ok (.invokevirtual 91, 3) := by decide +kernel
theorem dX4_nextOf_61 : decode cX4_nextOf 61 = .ok (.if_icmp .lt 31, 3) := by decide +kernel
theorem dX4_nextOf_64 : decode cX4_nextOf 64 = .ok (.aload_n 0, 1) := by decide +kernel
theorem dX4_nextOf_65 : decode cX4_nextOf 65 = .ok (.iload_n 2, 1) := by decide +kernel
theorem dX4_nextOf_66 : decode cX4_nextOf 66 = .ok (.iload 4, 2) := by decide +kernel
theorem dX4_nextOf_68 : decode cX4_nextOf 68 = .ok (.invokevirtual 91, 3) := by decide +kernel
theorem dX4_nextOf_71 : decode cX4_nextOf 71 = .ok (.aload_n 0, 1) := by decide +kernel
theorem dX4_nextOf_72 : decode cX4_nextOf 72 = .ok (.iload_n 2, 1) := by decide +kernel
theorem dX4_nextOf_73 : decode cX4_nextOf 73 = .ok (.iload_n 3, 1) := by decide +kernel
theorem dX4_nextOf_74 : decode cX4_nextOf 74 = .ok (.invokevirtual 91, 3) := by decide +kernel
theorem dX4_nextOf_77 : decode cX4_nextOf 77 = .ok (.if_icmp .ne 19, 3) := by decide +kernel
theorem dX4_nextOf_80 : decode cX4_nextOf 80 = .ok (.aload_n 0, 1) := by decide +kernel
theorem dX4_nextOf_81 : decode cX4_nextOf 81 = .ok (.iload 4, 2) := by decide +kernel
theorem dX4_nextOf_83 : decode cX4_nextOf 83 = .ok (.iload_n 3, 1) := by decide +kernel
theorem dX4_nextOf_84 : decode cX4_nextOf 84 = .ok (.invokevirtual 84, 3) := by decide +kernel
theorem dX4_nextOf_87 : decode cX4_nextOf 87 = .ok (.lconst 0, 1) := by decide +kernel
theorem dX4_nextOf_88 : decode cX4_nextOf 88 = .ok (.lcmp, 1) := by decide +kernel
theorem dX4_nextOf_89 : decode cX4_nextOf 89 = .ok (.ifCond .ge 7, 3) := by decide +kernel
theorem dX4_nextOf_92 : decode cX4_nextOf 92 = .ok (.iconst 1, 1) := by decide +kernel
theorem dX4_nextOf_93 : decode cX4_nextOf 93 = .ok (.goto 4, 3) := by decide +kernel
theorem dX4_nextOf_96 : decode cX4_nextOf 96 = .ok (.iconst 0, 1) := by decide +kernel
theorem dX4_nextOf_97 : decode cX4_nextOf 97 = .ok (.istore 5, 2) := by decide +kernel
theorem dX4_nextOf_99 : decode cX4_nextOf 99 = .ok (.iload 5, 2) := by decide +kernel
theorem dX4_nextOf_101 : decode cX4_nextOf 101 = .ok (.ifCond .eq 8, 3) := by decide +kernel
theorem dX4_nextOf_104 : decode cX4_nextOf 104 = .ok (.iload 4, 2) := by decide +kernel
theorem dX4_nextOf_106 : decode cX4_nextOf 106 = .ok (.goto 4, 3) := by decide +kernel
theorem dX4_nextOf_109 : decode cX4_nextOf 109 = .ok (.iload_n 3, 1) := by decide +kernel
theorem dX4_nextOf_110 : decode cX4_nextOf 110 = .ok (.istore_n 3, 1) := by decide +kernel
theorem dX4_nextOf_111 : decode cX4_nextOf 111 = .ok (.iinc 4 1, 3) := by decide +kernel
theorem dX4_nextOf_114 : decode cX4_nextOf 114 = .ok (.goto (-104), 3) := by decide +kernel
theorem dX4_nextOf_117 : decode cX4_nextOf 117 = .ok (.iload_n 3, 1) := by decide +kernel
theorem dX4_nextOf_118 : decode cX4_nextOf 118 = .ok (.ifCond .ge 7, 3) := by decide +kernel
theorem dX4_nextOf_121 : decode cX4_nextOf 121 = .ok (.iload_n 2, 1) := by decide +kernel
theorem dX4_nextOf_122 : decode cX4_nextOf 122 = .ok (.goto 4, 3) := by decide +kernel
theorem dX4_nextOf_125 : decode cX4_nextOf 125 = .ok (.iload_n 3, 1) := by decide +kernel
theorem dX4_nextOf_126 : decode cX4_nextOf 126 = .ok (.ireturn, 1) := by decide +kernel
set_option maxRecDepth 20000 in
theorem ggX4_spreadPiece_X4_back : GoodIn wsX4_spreadPiece wsX4_back := goodIn_r _ [8] (by decide +kernel) (by decide +kernel)
set_option maxRecDepth 20000 in
theorem gX4_spreadPiece_X4_back : GoodIn wsX4_spreadPiece (va_wsS RX4 80 yX4_back wsX4_back) := goodIn_app (goodIn_of _ (by decide +kernel)) ggX4_spreadPiece_X4_back
theorem dX4_spreadPiece_0 : decode cX4_spreadPiece 0 = .ok (.aload_n 0, 1) := by decide +kernel
theorem dX4_spreadPiece_1 : decode cX4_spreadPiece 1 = .ok (.getfield 23, 3) := by decide +kernel
theorem dX4_spreadPiece_4 : decode cX4_spreadPiece 4 = .ok (.iload_n 1, 1) := by decide +kernel
theorem dX4_spreadPiece_5 : decode cX4_spreadPiece 5 = .ok (.iload_n 2, 1) := by decide +kernel
theorem dX4_spreadPiece_6 : decode cX4_spreadPiece 6 = .ok (.iastore, 1) := by decide +kernel
theorem dX4_spreadPiece_7 : decode cX4_spreadPiece 7 = .ok (.iconst 1, 1) := by decide +kernel
theorem dX4_spreadPiece_8 : decode cX4_spreadPiece 8 = .ok (.istore_n 3, 1) := by decide +kernel
theorem dX4_spreadPiece_9 : decode cX4_spreadPiece 9 = .ok (.iload_n 3, 1) := by decide +kernel
theorem dX4_spreadPiece_10 : decode cX4_spreadPiece 10 = .ok (.ifCond .eq 159, 3) := by decide +kernel
theorem dX4_spreadPiece_13 : decode cX4_spreadPiece 13 = .ok (.iconst 0, 1) := by decide +kernel
theorem dX4_spreadPiece_14 : decode cX4_spreadPiece 14 = .ok (.istore_n 3, 1) := by decide +kernel
theorem dX4_spreadPiece_15 : decode cX4_spreadPiece 15 = .ok (.iconst 0, 1) := by decide +kernel
theorem dX4_spreadPiece_16 : decode cX4_spreadPiece 16 = .ok (.istore 4, 2) := by decide +kernel
theorem dX4_spreadPiece_18 : decode cX4_spreadPiece 18 = .ok (.iload 4, 2) := by decide +kernel
theorem dX4_spreadPiece_20 : decode cX4_spreadPiece 20 = .ok (.bipush 120, 2) := by decide +kernel
theorem dX4_spreadPiece_22 : decode cX4_spreadPiece 22 = .ok (.if_icmp .ge 144, 3) := by decide +kernel
theorem dX4_spreadPiece_25 : decode cX4_spreadPiece 25 = .ok (.iconst 0, 1) := by decide +kernel
theorem dX4_spreadPiece_26 : decode cX4_spreadPiece 26 = .ok (.istore 5, 2) := by decide +kernel
theorem dX4_spreadPiece_28 : decode cX4_spreadPiece 28 = .ok (.iconst 0, 1) := by decide +kernel
theorem dX4_spreadPiece_29 : decode cX4_spreadPiece 29 = .ok (.istore 6, 2) := by decide +kernel
theorem dX4_spreadPiece_31 : decode cX4_spreadPiece 31 = .ok (.iload 6, 2) := by decide +kernel
theorem dX4_spreadPiece_33 : decode cX4_spreadPiece 33 = .ok (.bipush 120, 2) := by decide +kernel
theorem dX4_spreadPiece_35 : decode cX4_spreadPiece 35 = .ok (.if_icmp .ge 110, 3) := by decide +kernel
theorem dX4_spreadPiece_38 : decode cX4_spreadPiece 38 = .ok (.aload_n 0, 1) := by decide +kernel
theorem dX4_spreadPiece_39 : decode cX4_spreadPiece 39 = .ok (.getfield 7, 3) := by decide +kernel
theorem dX4_spreadPiece_42 : decode cX4_spreadPiece 42 = .ok (.iload 4, 2) := by decide +kernel
theorem dX4_spreadPiece_44 : decode cX4_spreadPiece 44 = .ok (.iconst 2, 1) := by decide +kernel
theorem dX4_spreadPiece_45 : decode cX4_spreadPiece 45 = .ok (.idiv, 1) := by decide +kernel
theorem dX4_spreadPiece_46 : decode cX4_spreadPiece 46 = .ok (.baload, 1) := by decide +kernel
theorem dX4_spreadPiece_47 : decode cX4_spreadPiece 47 = .ok (.ifCond .eq 98, 3) := by decide +kernel
theorem dX4_spreadPiece_50 : decode cX4_spreadPiece 50 = .ok (.aload_n 0, 1) := by decide +kernel
theorem dX4_spreadPiece_51 : decode cX4_spreadPiece 51 = .ok (.getfield 23, 3) := by decide +kernel
theorem dX4_spreadPiece_54 : decode cX4_spreadPiece 54 = .ok (.iload 4, 2) := by decide +kernel
theorem dX4_spreadPiece_56 : decode cX4_spreadPiece 56 = .ok (.iaload, 1) := by decide +kernel
theorem dX4_spreadPiece_57 : decode cX4_spreadPiece 57 = .ok (.ifCond .ge 88, 3) := by decide +kernel
theorem dX4_spreadPiece_60 : decode cX4_spreadPiece 60 = .ok (.iload 5, 2) := by decide +kernel
theorem dX4_spreadPiece_62 : decode cX4_spreadPiece 62 = .ok (.ifCond .ne 70, 3) := by decide +kernel
theorem dX4_spreadPiece_65 : decode cX4_spreadPiece 65 = .ok (.aload_n 0, 1) := by decide +kernel
theorem dX4_spreadPiece_66 : decode cX4_spreadPiece 66 = .ok (.getfield 23, 3) := by decide +kernel
theorem dX4_spreadPiece_69 : decode cX4_spreadPiece 69 = .ok (.iload 6, 2) := by decide +kernel
theorem dX4_spreadPiece_71 : decode cX4_spreadPiece 71 = .ok (.iaload, 1) := by decide +kernel
theorem dX4_spreadPiece_72 : decode cX4_spreadPiece 72 = .ok (.iload_n 2, 1) := by decide +kernel
theorem dX4_spreadPiece_73 : decode cX4_spreadPiece 73 = .ok (.if_icmp .ne 63, 3) := by decide +kernel
theorem dX4_spreadPiece_76 : decode cX4_spreadPiece 76 = .ok (.aload_n 0, 1) := by decide +kernel
theorem dX4_spreadPiece_77 : decode cX4_spreadPiece 77 = .ok (.getfield 7, 3) := by decide +kernel
theorem dX4_spreadPiece_80 : decode cX4_spreadPiece 80 = .ok (.iload 6, 2) := by decide +kernel
theorem dX4_spreadPiece_82 : decode cX4_spreadPiece 82 = .ok (.iconst 2, 1) := by decide +kernel
theorem dX4_spreadPiece_83 : decode cX4_spreadPiece 83 = .ok (.idiv, 1) := by decide +kernel
theorem dX4_spreadPiece_84 : decode cX4_spreadPiece 84 = .ok (.baload, 1) := by decide +kernel
theorem dX4_spreadPiece_85 : decode cX4_spreadPiece 85 = .ok (.ifCond .eq 51, 3) := by decide +kernel
theorem dX4_spreadPiece_88 : decode cX4_spreadPiece 88 = .ok (.aload_n 0, 1) := by decide +kernel
theorem dX4_spreadPiece_89 : decode cX4_spreadPiece 89 = .ok (.getfield 13, 3) := by decide +kernel
theorem dX4_spreadPiece_92 : decode cX4_spreadPiece 92 = .ok (.iload 6, 2) := by decide +kernel
theorem dX4_spreadPiece_94 : decode cX4_spreadPiece 94 = .ok (.iaload, 1) := by decide +kernel
theorem dX4_spreadPiece_95 : decode cX4_spreadPiece 95 = .ok (.aload_n 0, 1) := by decide +kernel
theorem dX4_spreadPiece_96 : decode cX4_spreadPiece 96 = .ok (.getfield 13, 3) := by decide +kernel
theorem dX4_spreadPiece_99 : decode cX4_spreadPiece 99 = .ok (.iload 4, 2) := by decide +kernel
theorem dX4_spreadPiece_101 : decode cX4_spreadPiece 101 = .ok (.iaload, 1) := by decide +kernel
theorem dX4_spreadPiece_102 : decode cX4_spreadPiece 102 = .ok (.if_icmp .ne 20, 3) := by decide +kernel
theorem dX4_spreadPiece_105 : decode cX4_spreadPiece 105 = .ok (.aload_n 0, 1) := by decide +kernel
theorem dX4_spreadPiece_106 : decode cX4_spreadPiece 106 = .ok (.getfield 17, 3) := by decide +kernel
theorem dX4_spreadPiece_109 : decode cX4_spreadPiece 109 = .ok (.iload 6, 2) := by decide +kernel
theorem dX4_spreadPiece_111 : decode cX4_spreadPiece 111 = .ok (.iaload, 1) := by decide +kernel
theorem dX4_spreadPiece_112 : decode cX4_spreadPiece 112 = .ok (.aload_n 0, 1) := by decide +kernel
theorem dX4_spreadPiece_113 : decode cX4_spreadPiece 113 = .ok (.getfield 17, 3) := by decide +kernel
theorem dX4_spreadPiece_116 : decode cX4_spreadPiece 116 = .ok (.iload 4, 2) := by decide +kernel
theorem dX4_spreadPiece_118 : decode cX4_spreadPiece 118 = .ok (.iaload, 1) := by decide +kernel
theorem dX4_spreadPiece_119 : decode cX4_spreadPiece 119 = .ok (.if_icmp .eq 13, 3) := by decide +kernel
theorem dX4_spreadPiece_122 : decode cX4_spreadPiece 122 = .ok (.iload 6, 2) := by decide +kernel
theorem dX4_spreadPiece_124 : decode cX4_spreadPiece 124 = .ok (.iload 4, 2) := by decide +kernel
theorem dX4_spreadPiece_126 : decode cX4_spreadPiece 126 = .ok (.invokestatic 80, 3) := by decide +kernel
theorem dX4_spreadPiece_129 : decode cX4_spreadPiece 129 = .ok (.if_icmp .ne 7, 3) := by decide +kernel
theorem dX4_spreadPiece_132 : decode cX4_spreadPiece 132 = .ok (.iconst 1, 1) := by decide +kernel
theorem dX4_spreadPiece_133 : decode cX4_spreadPiece 133 = .ok (.goto 4, 3) := by decide +kernel
theorem dX4_spreadPiece_136 : decode cX4_spreadPiece 136 = .ok (.iconst 0, 1) := by decide +kernel
theorem dX4_spreadPiece_137 : decode cX4_spreadPiece 137 = .ok (.istore 5, 2) := by decide +kernel
theorem dX4_spreadPiece_139 : decode cX4_spreadPiece 139 = .ok (.iinc 6 1, 3) := by decide +kernel
theorem dX4_spreadPiece_142 : decode cX4_spreadPiece 142 = .ok (.goto (-111), 3) := by decide +kernel
theorem dX4_spreadPiece_145 : decode cX4_spreadPiece 145 = .ok (.iload 5, 2) := by decide +kernel
theorem dX4_spreadPiece_147 : decode cX4_spreadPiece 147 = .ok (.ifCond .eq 13, 3) := by decide +kernel
theorem dX4_spreadPiece_150 : decode cX4_spreadPiece 150 = .ok (.aload_n 0, 1) := by decide +kernel
theorem dX4_spreadPiece_151 : decode cX4_spreadPiece 151 = .ok (.getfield 23, 3) := by decide +kernel
theorem dX4_spreadPiece_154 : decode cX4_spreadPiece 154 = .ok (.iload 4, 2) := by decide +kernel
theorem dX4_spreadPiece_156 : decode cX4_spreadPiece 156 = .ok (.iload_n 2, 1) := by decide +kernel
theorem dX4_spreadPiece_157 : decode cX4_spreadPiece 157 = .ok (.iastore, 1) := by decide +kernel
theorem dX4_spreadPiece_158 : decode cX4_spreadPiece 158 = .ok (.iconst 1, 1) := by decide +kernel
theorem dX4_spreadPiece_159 : decode cX4_spreadPiece 159 = .ok (.istore_n 3, 1) := by decide +kernel
theorem dX4_spreadPiece_160 : decode cX4_spreadPiece 160 = .ok (.iinc 4 1, 3) := by decide +kernel
theorem dX4_spreadPiece_163 : decode cX4_spreadPiece 163 = .ok (.goto (-145), 3) := by decide +kernel
theorem dX4_spreadPiece_166 : decode cX4_spreadPiece 166 = .ok (.goto (-157), 3) := by decide +kernel
theorem dX4_spreadPiece_169 : decode cX4_spreadPiece 169 = .ok (.return_, 1) := by decide +kernel
set_option maxRecDepth 20000 in
theorem ggX4_makeRound_X4_back : GoodIn wsX4_makeRound wsX4_back := goodIn_r _ [11] (by decide +kernel) (by decide +kernel)
set_option maxRecDepth 20000 in
theorem gX4_makeRound_X4_back : GoodIn wsX4_makeRound (va_wsS RX4 80 yX4_back wsX4_back) := goodIn_app (goodIn_of _ (by decide +kernel)) ggX4_makeRound_X4_back
theorem dX4_makeRound_0 : decode cX4_makeRound 0 = .ok (.aload_n 0, 1) := by decide +kernel
theorem dX4_makeRound_1 : decode cX4_makeRound 1 = .ok (.getfield 29, 3) := by decide +kernel
theorem dX4_makeRound_4 : decode cX4_makeRound 4 = .ok (.aload_n 0, 1) := by decide +kernel
theorem dX4_makeRound_5 : decode cX4_makeRound 5 = .ok (.getfield 95, 3) := by decide +kernel
theorem dX4_makeRound_8 : decode cX4_makeRound 8 = .ok (.iload_n 1, 1) := by decide +kernel
theorem dX4_makeRound_9 : decode cX4_makeRound 9 = .ok (.iastore, 1) := by decide +kernel
theorem dX4_makeRound_10 : decode cX4_makeRound 10 = .ok (.aload_n 0, 1) := by decide +kernel
theorem dX4_makeRound_11 : decode cX4_makeRound 11 = .ok (.getfield 32, 3) := by decide +kernel
theorem dX4_makeRound_14 : decode cX4_makeRound 14 = .ok (.aload_n 0, 1) := by decide +kernel
theorem dX4_makeRound_15 : decode cX4_makeRound 15 = .ok (.getfield 95, 3) := by decide +kernel
theorem dX4_makeRound_18 : decode cX4_makeRound 18 = .ok (.lconst 0, 1) := by decide +kernel
theorem dX4_makeRound_19 : decode cX4_makeRound 19 = .ok (.lastore, 1) := by decide +kernel
theorem dX4_makeRound_20 : decode cX4_makeRound 20 = .ok (.iload_n 1, 1) := by decide +kernel
theorem dX4_makeRound_21 : decode cX4_makeRound 21 = .ok (.istore_n 2, 1) := by decide +kernel
theorem dX4_makeRound_22 : decode cX4_makeRound 22 = .ok (.iconst 1, 1) := by decide +kernel
theorem dX4_makeRound_23 : decode cX4_makeRound 23 = .ok (.istore_n 3, 1) := by decide +kernel
theorem dX4_makeRound_24 : decode cX4_makeRound 24 = .ok (.iload_n 3, 1) := by decide +kernel
theorem dX4_makeRound_25 : decode cX4_makeRound 25 = .ok (.ifCond .eq 90, 3) := by decide +kernel
theorem dX4_makeRound_28 : decode cX4_makeRound 28 = .ok (.aload_n 0, 1) := by decide +kernel
theorem dX4_makeRound_29 : decode cX4_makeRound 29 = .ok (.getfield 26, 3) := by decide +kernel
theorem dX4_makeRound_32 : decode cX4_makeRound 32 = .ok (.iload_n 2, 1) := by decide +kernel
theorem dX4_makeRound_33 : decode cX4_makeRound 33 = .ok (.aload_n 0, 1) := by decide +kernel
theorem dX4_makeRound_34 : decode cX4_makeRound 34 = .ok (.getfield 95, 3) := by decide +kernel
theorem dX4_makeRound_37 : decode cX4_makeRound 37 = .ok (.iastore, 1) := by decide +kernel
theorem dX4_makeRound_38 : decode cX4_makeRound 38 = .ok (.aload_n 0, 1) := by decide +kernel
theorem dX4_makeRound_39 : decode cX4_makeRound 39 = .ok (.getfield 32, 3) := by decide +kernel
theorem dX4_makeRound_42 : decode cX4_makeRound 42 = .ok (.aload_n 0, 1) := by decide +kernel
theorem dX4_makeRound_43 : decode cX4_makeRound 43 = .ok (.getfield 95, 3) := by decide +kernel
theorem dX4_makeRound_46 : decode cX4_makeRound 46 = .ok (.aload_n 0, 1) := by decide +kernel
theorem dX4_makeRound_47 : decode cX4_makeRound 47 = .ok (.getfield 32, 3) := by decide +kernel
theorem dX4_makeRound_50 : decode cX4_makeRound 50 = .ok (.aload_n 0, 1) := by decide +kernel
theorem dX4_makeRound_51 : decode cX4_makeRound 51 = .ok (.getfield 95, 3) := by decide +kernel
theorem dX4_makeRound_54 : decode cX4_makeRound 54 = .ok (.laload, 1) := by decide +kernel
theorem dX4_makeRound_55 : decode cX4_makeRound 55 = .ok (.aload_n 0, 1) := by decide +kernel
theorem dX4_makeRound_56 : decode cX4_makeRound 56 = .ok (.getfield 13, 3) := by decide +kernel
theorem dX4_makeRound_59 : decode cX4_makeRound 59 = .ok (.iload_n 2, 1) := by decide +kernel
theorem dX4_makeRound_60 : decode cX4_makeRound 60 = .ok (.iaload, 1) := by decide +kernel
theorem dX4_makeRound_61 : decode cX4_makeRound 61 = .ok (.i2l, 1) := by decide +kernel
theorem dX4_makeRound_62 : decode cX4_makeRound 62 = .ok (.aload_n 0, 1) := by decide +kernel
theorem dX4_makeRound_63 : decode cX4_makeRound 63 = .ok (.getfield 17, 3) := by decide +kernel
theorem dX4_makeRound_66 : decode cX4_makeRound 66 = .ok (.iload_n 2, 1) := by decide +kernel
theorem dX4_makeRound_67 : decode cX4_makeRound 67 = .ok (.invokestatic 80, 3) := by decide +kernel
theorem dX4_makeRound_70 : decode cX4_makeRound 70 = .ok (.iaload, 1) := by decide +kernel
theorem dX4_makeRound_71 : decode cX4_makeRound 71 = .ok (.i2l, 1) := by decide +kernel
theorem dX4_makeRound_72 : decode cX4_makeRound 72 = .ok (.lmul, 1) := by decide +kernel
theorem dX4_makeRound_73 : decode cX4_makeRound 73 = .ok (.ladd, 1) := by decide +kernel
theorem dX4_makeRound_74 : decode cX4_makeRound 74 = .ok (.aload_n 0, 1) := by decide +kernel
theorem dX4_makeRound_75 : decode cX4_makeRound 75 = .ok (.getfield 13, 3) := by decide +kernel
theorem dX4_makeRound_78 : decode cX4_makeRound 78 = .ok (.iload_n 2, 1) := by decide +kernel
theorem dX4_makeRound_79 : decode cX4_makeRound 79 = .ok (.invokestatic 80, 3) := by decide +kernel
theorem dX4_makeRound_82 : decode cX4_makeRound 82 = .ok (.iaload, 1) := by decide +kernel
theorem dX4_makeRound_83 : decode cX4_makeRound 83 = .ok (.i2l, 1) := by decide +kernel
theorem dX4_makeRound_84 : decode cX4_makeRound 84 = .ok (.aload_n 0, 1) := by decide +kernel
theorem dX4_makeRound_85 : decode cX4_makeRound 85 = .ok (.getfield 17, 3) := by decide +kernel
theorem dX4_makeRound_88 : decode cX4_makeRound 88 = .ok (.iload_n 2, 1) := by decide +kernel
theorem dX4_makeRound_89 : decode cX4_makeRound 89 = .ok (.iaload, 1) := by decide +kernel
theorem dX4_makeRound_90 : decode cX4_makeRound 90 = .ok (.i2l, 1) := by decide +kernel
theorem dX4_makeRound_91 : decode cX4_makeRound 91 = .ok (.lmul, 1) := by decide +kernel
theorem dX4_makeRound_92 : decode cX4_makeRound 92 = .ok (.lsub, 1) := by decide +kernel
theorem dX4_makeRound_93 : decode cX4_makeRound 93 = .ok (.lastore, 1) := by decide +kernel
theorem dX4_makeRound_94 : decode cX4_makeRound 94 = .ok (.aload_n 0, 1) := by decide +kernel
theorem dX4_makeRound_95 : decode cX4_makeRound 95 = .ok (.getfield 20, 3) := by decide +kernel
theorem dX4_makeRound_98 : decode cX4_makeRound 98 = .ok (.iload_n 2, 1) := by decide +kernel
theorem dX4_makeRound_99 : decode cX4_makeRound 99 = .ok (.iaload, 1) := by decide +kernel
theorem dX4_makeRound_100 : decode cX4_makeRound 100 = .ok (.istore_n 2, 1) := by decide +kernel
theorem dX4_makeRound_101 : decode cX4_makeRound 101 = .ok (.iload_n 2, 1) := by decide +kernel
theorem dX4_makeRound_102 : decode cX4_makeRound 102 = .ok (.iload_n 1, 1) := by decide +kernel
theorem dX4_makeRound_103 : decode cX4_makeRound 103 = .ok (.if_icmp .eq 7, 3) := by decide +kernel
theorem dX4_makeRound_106 : decode cX4_makeRound 106 = .ok (.iconst 1, 1) := by decide +kernel
theorem dX4_makeRound_107 : decode cX4_makeRound 107 = .ok (.goto 4, 3) := by decide +kernel
theorem dX4_makeRound_110 : decode cX4_makeRound 110 = .ok (.iconst 0, 1) := by decide +kernel
theorem dX4_makeRound_111 : decode cX4_makeRound 111 = .ok (.istore_n 3, 1) := by decide +kernel
theorem dX4_makeRound_112 : decode cX4_makeRound 112 = .ok (.goto (-88), 3) := by decide +kernel
theorem dX4_makeRound_115 : decode cX4_makeRound 115 = .ok (.aload_n 0, 1) := by decide +kernel
theorem dX4_makeRound_116 : decode cX4_makeRound 116 = .ok (.dup, 1) := by decide +kernel
theorem dX4_makeRound_117 : decode cX4_makeRound 117 = .ok (.getfield 95, 3) := by decide +kernel
theorem dX4_makeRound_120 : decode cX4_makeRound 120 = .ok (.iconst 1, 1) := by decide +kernel
theorem dX4_makeRound_121 : decode cX4_makeRound 121 = .ok (.iadd, 1) := by decide +kernel
theorem dX4_makeRound_122 : decode cX4_makeRound 122 = .ok (.putfield 95, 3) := by decide +kernel
theorem dX4_makeRound_125 : decode cX4_makeRound 125 = .ok (.return_, 1) := by decide +kernel
set_option maxRecDepth 20000 in
theorem ggX4_isWithin_X4_back : GoodIn wsX4_isWithin wsX4_back := goodIn_r _ [8] (by decide +kernel) (by decide +kernel)
set_option maxRecDepth 20000 in
theorem gX4_isWithin_X4_back : GoodIn wsX4_isWithin (va_wsS RX4 80 yX4_back wsX4_back) := goodIn_app (goodIn_of _ (by decide +kernel)) ggX4_isWithin_X4_back
set_option maxRecDepth 20000 in
theorem ggX4_isWithin_X4_side : GoodIn wsX4_isWithin wsX4_side := goodIn_r _ [11, 12, 13, 7, 14] (by decide +kernel) (by decide +kernel)
set_option maxRecDepth 20000 in
theorem gX4_isWithin_X4_side : GoodIn wsX4_isWithin (va_wsS RX4 53 yX4_side wsX4_side) := goodIn_app (goodIn_of _ (by decide +kernel)) ggX4_isWithin_X4_side
theorem dX4_isWithin_0 : decode cX4_isWithin 0 = .ok (.iconst 0, 1) := by decide +kernel
theorem dX4_isWithin_1 : decode cX4_isWithin 1 = .ok (.istore 4, 2) := by decide +kernel
theorem dX4_isWithin_3 : decode cX4_isWithin 3 = .ok (.iconst 0, 1) := by decide +kernel
theorem dX4_isWithin_4 : decode cX4_isWithin 4 = .ok (.istore 5, 2) := by decide +kernel
theorem dX4_isWithin_6 : decode cX4_isWithin 6 = .ok (.iload 5, 2) := by decide +kernel
theorem dX4_isWithin_8 : decode cX4_isWithin 8 = .ok (.bipush 120, 2) := by decide +kernel
theorem dX4_isWithin_10 : decode cX4_isWithin 10 = .ok (.if_icmp .ge 158, 3) := by decide +kernel
theorem dX4_isWithin_13 : decode cX4_isWithin 13 = .ok (.aload_n 0, 1) := by decide +kernel
theorem dX4_isWithin_14 : decode cX4_isWithin 14 = .ok (.getfield 7, 3) := by decide +kernel
theorem dX4_isWithin_17 : decode cX4_isWithin 17 = .ok (.iload 5, 2) := by decide +kernel
theorem dX4_isWithin_19 : decode cX4_isWithin 19 = .ok (.iconst 2, 1) := by decide +kernel
theorem dX4_isWithin_20 : decode cX4_isWithin 20 = .ok (.idiv, 1) := by decide +kernel
theorem dX4_isWithin_21 : decode cX4_isWithin 21 = .ok (.baload, 1) := by decide +kernel
theorem dX4_isWithin_22 : decode cX4_isWithin 22 = .ok (.ifCond .eq 140, 3) := by decide +kernel
theorem dX4_isWithin_25 : decode cX4_isWithin 25 = .ok (.aload_n 0, 1) := by decide +kernel
theorem dX4_isWithin_26 : decode cX4_isWithin 26 = .ok (.getfield 26, 3) := by decide +kernel
theorem dX4_isWithin_29 : decode cX4_isWithin 29 = .ok (.iload 5, 2) := by decide +kernel
theorem dX4_isWithin_31 : decode cX4_isWithin 31 = .ok (.iaload, 1) := by decide +kernel
theorem dX4_isWithin_32 : decode cX4_isWithin 32 = .ok (.iload_n 1, 1) := by decide +kernel
theorem dX4_isWithin_33 : decode cX4_isWithin 33 = .ok (.if_icmp .ne 129, 3) := by decide +kernel
theorem dX4_isWithin_36 : decode cX4_isWithin 36 = .ok (.aload_n 0, 1) := by decide +kernel
theorem dX4_isWithin_37 : decode cX4_isWithin 37 = .ok (.getfield 13, 3) := by decide +kernel
theorem dX4_isWithin_40 : decode cX4_isWithin 40 = .ok (.iload 5, 2) := by decide +kernel
theorem dX4_isWithin_42 : decode cX4_isWithin 42 = .ok (.iaload, 1) := by decide +kernel
theorem dX4_isWithin_43 : decode cX4_isWithin 43 = .ok (.aload_n 0, 1) := by decide +kernel
theorem dX4_isWithin_44 : decode cX4_isWithin 44 = .ok (.getfield 13, 3) := by decide +kernel
theorem dX4_isWithin_47 : decode cX4_isWithin 47 = .ok (.iload 5, 2) := by decide +kernel
theorem dX4_isWithin_49 : decode cX4_isWithin 49 = .ok (.invokestatic 80, 3) := by decide +kernel
theorem dX4_isWithin_52 : decode cX4_isWithin 52 = .ok (.iaload, 1) := by decide +kernel
theorem dX4_isWithin_53 : decode cX4_isWithin 53 = .ok (.if_icmp .ge 8, 3) := by decide +kernel
theorem dX4_isWithin_56 : decode cX4_isWithin 56 = .ok (.iload 5, 2) := by decide +kernel
theorem dX4_isWithin_58 : decode cX4_isWithin 58 = .ok (.goto 8, 3) := by decide +kernel
theorem dX4_isWithin_61 : decode cX4_isWithin 61 = .ok (.iload 5, 2) := by decide +kernel
theorem dX4_isWithin_63 : decode cX4_isWithin 63 = .ok (.invokestatic 80, 3) := by decide +kernel
theorem dX4_isWithin_66 : decode cX4_isWithin 66 = .ok (.istore 6, 2) := by decide +kernel
theorem dX4_isWithin_68 : decode cX4_isWithin 68 = .ok (.iload 6, 2) := by decide +kernel
theorem dX4_isWithin_70 : decode cX4_isWithin 70 = .ok (.invokestatic 80, 3) := by decide +kernel
theorem dX4_isWithin_73 : decode cX4_isWithin 73 = .ok (.istore 7, 2) := by decide +kernel
theorem dX4_isWithin_75 : decode cX4_isWithin 75 = .ok (.aload_n 0, 1) := by decide +kernel
theorem dX4_isWithin_76 : decode cX4_isWithin 76 = .ok (.getfield 13, 3) := by decide +kernel
theorem dX4_isWithin_79 : decode cX4_isWithin 79 = .ok (.iload 6, 2) := by decide +kernel
theorem dX4_isWithin_81 : decode cX4_isWithin 81 = .ok (.iaload, 1) := by decide +kernel
theorem dX4_isWithin_82 : decode cX4_isWithin 82 = .ok (.iload_n 2, 1) := by decide +kernel
theorem dX4_isWithin_83 : decode cX4_isWithin 83 = .ok (.if_icmp .gt 54, 3) := by decide +kernel
theorem dX4_isWithin_86 : decode cX4_isWithin 86 = .ok (.iload_n 2, 1) := by decide +kernel
theorem dX4_isWithin_87 : decode cX4_isWithin 87 = .ok (.aload_n 0, 1) := by decide +kernel
theorem dX4_isWithin_88 : decode cX4_isWithin 88 = .ok (.getfield 13, 3) := by decide +kernel
theorem dX4_isWithin_91 : decode cX4_isWithin 91 = .ok (.iload 7, 2) := by decide +kernel
theorem dX4_isWithin_93 : decode cX4_isWithin 93 = .ok (.iaload, 1) := by decide +kernel
theorem dX4_isWithin_94 : decode cX4_isWithin 94 = .ok (.if_icmp .ge 43, 3) := by decide +kernel
theorem dX4_isWithin_97 : decode cX4_isWithin 97 = .ok (.aload_n 0, 1) := by decide +kernel
theorem dX4_isWithin_98 : decode cX4_isWithin 98 = .ok (.getfield 13, 3) := by decide +kernel
theorem dX4_isWithin_101 : decode cX4_isWithin 101 = .ok (.iload 6, 2) := by decide +kernel
theorem dX4_isWithin_103 : decode cX4_isWithin 103 = .ok (.iaload, 1) := by decide +kernel
theorem dX4_isWithin_104 : decode cX4_isWithin 104 = .ok (.aload_n 0, 1) := by decide +kernel
theorem dX4_isWithin_105 : decode cX4_isWithin 105 = .ok (.getfield 17, 3) := by decide +kernel
theorem dX4_isWithin_108 : decode cX4_isWithin 108 = .ok (.iload 6, 2) := by decide +kernel
theorem dX4_isWithin_110 : decode cX4_isWithin 110 = .ok (.iaload, 1) := by decide +kernel
theorem dX4_isWithin_111 : decode cX4_isWithin 111 = .ok (.aload_n 0, 1) := by decide +kernel
theorem dX4_isWithin_112 : decode cX4_isWithin 112 = .ok (.getfield 13, 3) := by decide +kernel
theorem dX4_isWithin_115 : decode cX4_isWithin 115 = .ok (.iload 7, 2) := by decide +kernel
theorem dX4_isWithin_117 : decode cX4_isWithin 117 = .ok (.iaload, 1) := by decide +kernel
theorem dX4_isWithin_118 : decode cX4_isWithin 118 = .ok (.aload_n 0, 1) := by decide +kernel
theorem dX4_isWithin_119 : decode cX4_isWithin 119 = .ok (.getfield 17, 3) := by decide +kernel
theorem dX4_isWithin_122 : decode cX4_isWithin 122 = .ok (.iload 7, 2) := by decide +kernel
theorem dX4_isWithin_124 : decode cX4_isWithin 124 = .ok (.iaload, 1) := by decide +kernel
theorem dX4_isWithin_125 : decode cX4_isWithin 125 = .ok (.iload_n 2, 1) := by decide +kernel
theorem dX4_isWithin_126 : decode cX4_isWithin 126 = .ok (.iload_n 3, 1) := by decide +kernel
theorem dX4_isWithin_127 : decode cX4_isWithin 127 = .ok (.invokestatic 53, 3) := by decide +kernel
theorem dX4_isWithin_130 : decode cX4_isWithin 130 = .ok (.ifCond .ge 7, 3) := by decide +kernel
theorem dX4_isWithin_133 : decode cX4_isWithin 133 = .ok (.iconst 1, 1) := by decide +kernel
theorem dX4_isWithin_134 : decode cX4_isWithin 134 = .ok (.goto 4, 3) := by decide +kernel
theorem dX4_isWithin_137 : decode cX4_isWithin 137 = .ok (.iconst 0, 1) := by decide +kernel
theorem dX4_isWithin_138 : decode cX4_isWithin 138 = .ok (.istore 8, 2) := by decide +kernel
theorem dX4_isWithin_140 : decode cX4_isWithin 140 = .ok (.iload 8, 2) := by decide +kernel
theorem dX4_isWithin_142 : decode cX4_isWithin 142 = .ok (.ifCond .eq 16, 3) := by decide +kernel
theorem dX4_isWithin_145 : decode cX4_isWithin 145 = .ok (.iload 4, 2) := by decide +kernel
theorem dX4_isWithin_147 : decode cX4_isWithin 147 = .ok (.ifCond .ne 7, 3) := by decide +kernel
theorem dX4_isWithin_150 : decode cX4_isWithin 150 = .ok (.iconst 1, 1) := by decide +kernel
theorem dX4_isWithin_151 : decode cX4_isWithin 151 = .ok (.goto 9, 3) := by decide +kernel
theorem dX4_isWithin_154 : decode cX4_isWithin 154 = .ok (.iconst 0, 1) := by decide +kernel
theorem dX4_isWithin_155 : decode cX4_isWithin 155 = .ok (.goto 5, 3) := by decide +kernel
theorem dX4_isWithin_158 : decode cX4_isWithin 158 = .ok (.iload 4, 2) := by decide +kernel
theorem dX4_isWithin_160 : decode cX4_isWithin 160 = .ok (.istore 4, 2) := by decide +kernel
theorem dX4_isWithin_162 : decode cX4_isWithin 162 = .ok (.iinc 5 1, 3) := by decide +kernel
theorem dX4_isWithin_165 : decode cX4_isWithin 165 = .ok (.goto (-159), 3) := by decide +kernel
theorem dX4_isWithin_168 : decode cX4_isWithin 168 = .ok (.iload 4, 2) := by decide +kernel
theorem dX4_isWithin_170 : decode cX4_isWithin 170 = .ok (.ireturn, 1) := by decide +kernel
set_option maxRecDepth 20000 in
theorem ggX4_least_X4_isWithin : GoodIn wsX4_least wsX4_isWithin := goodIn_r _ [9, 10, 11, 12, 13, 14, 15, 8, 16, 17, 18, 19, 20, 21, 22, 23, 24, 25, 26, 27, 28, 29, 30, 31, 32, 33, 34, 35, 36, 37, 38] (by decide +kernel) (by decide +kernel)
set_option maxRecDepth 20000 in
theorem gX4_least_X4_isWithin : GoodIn wsX4_least (wsV RX4 98 RX4 yX4_isWithin wsX4_isWithin) := goodIn_app (goodIn_of _ (by decide +kernel)) ggX4_least_X4_isWithin
theorem dX4_least_0 : decode cX4_least 0 = .ok (.iconst (-1), 1) := by decide +kernel
theorem dX4_least_1 : decode cX4_least 1 = .ok (.istore 4, 2) := by decide +kernel
theorem dX4_least_3 : decode cX4_least 3 = .ok (.iconst 0, 1) := by decide +kernel
theorem dX4_least_4 : decode cX4_least 4 = .ok (.istore 5, 2) := by decide +kernel
theorem dX4_least_6 : decode cX4_least 6 = .ok (.iload 5, 2) := by decide +kernel
theorem dX4_least_8 : decode cX4_least 8 = .ok (.aload_n 0, 1) := by decide +kernel
theorem dX4_least_9 : decode cX4_least 9 = .ok (.getfield 95, 3) := by decide +kernel
theorem dX4_least_12 : decode cX4_least 12 = .ok (.if_icmp .ge 92, 3) := by decide +kernel
theorem dX4_least_15 : decode cX4_least 15 = .ok (.aload_n 0, 1) := by decide +kernel
theorem dX4_least_16 : decode cX4_least 16 = .ok (.getfield 32, 3) := by decide +kernel
theorem dX4_least_19 : decode cX4_least 19 = .ok (.iload 5, 2) := by decide +kernel
theorem dX4_least_21 : decode cX4_least 21 = .ok (.laload, 1) := by decide +kernel
theorem dX4_least_22 : decode cX4_least 22 = .ok (.lconst 0, 1) := by decide +kernel
theorem dX4_least_23 : decode cX4_least 23 = .ok (.lcmp, 1) := by decide +kernel
theorem dX4_least_24 : decode cX4_least 24 = .ok (.ifCond .le 46, 3) := by decide +kernel
theorem dX4_least_27 : decode cX4_least 27 = .ok (.aload_n 0, 1) := by decide +kernel
theorem dX4_least_28 : decode cX4_least 28 = .ok (.getfield 23, 3) := by decide +kernel
theorem dX4_least_31 : decode cX4_least 31 = .ok (.aload_n 0, 1) := by decide +kernel
theorem dX4_least_32 : decode cX4_least 32 = .ok (.getfield 29, 3) := by decide +kernel
theorem dX4_least_35 : decode cX4_least 35 = .ok (.iload 5, 2) := by decide +kernel
theorem dX4_least_37 : decode cX4_least 37 = .ok (.iaload, 1) := by decide +kernel
theorem dX4_least_38 : decode cX4_least 38 = .ok (.iaload, 1) := by decide +kernel
theorem dX4_least_39 : decode cX4_least 39 = .ok (.iload_n 3, 1) := by decide +kernel
theorem dX4_least_40 : decode cX4_least 40 = .ok (.if_icmp .eq 30, 3) := by decide +kernel
theorem dX4_least_43 : decode cX4_least 43 = .ok (.iload 4, 2) := by decide +kernel
theorem dX4_least_45 : decode cX4_least 45 = .ok (.ifCond .lt 21, 3) := by decide +kernel
theorem dX4_least_48 : decode cX4_least 48 = .ok (.aload_n 0, 1) := by decide +kernel
theorem dX4_least_49 : decode cX4_least 49 = .ok (.getfield 32, 3) := by decide +kernel
theorem dX4_least_52 : decode cX4_least 52 = .ok (.iload 5, 2) := by decide +kernel
theorem dX4_least_54 : decode cX4_least 54 = .ok (.laload, 1) := by decide +kernel
theorem dX4_least_55 : decode cX4_least 55 = .ok (.aload_n 0, 1) := by decide +kernel
theorem dX4_least_56 : decode cX4_least 56 = .ok (.getfield 32, 3) := by decide +kernel
theorem dX4_least_59 : decode cX4_least 59 = .ok (.iload 4, 2) := by decide +kernel
theorem dX4_least_61 : decode cX4_least 61 = .ok (.laload, 1) := by decide +kernel
theorem dX4_least_62 : decode cX4_least 62 = .ok (.lcmp, 1) := by decide +kernel
theorem dX4_least_63 : decode cX4_least 63 = .ok (.ifCond .ge 7, 3) := by decide +kernel
theorem dX4_least_66 : decode cX4_least 66 = .ok (.iconst 1, 1) := by decide +kernel
theorem dX4_least_67 : decode cX4_least 67 = .ok (.goto 4, 3) := by decide +kernel
theorem dX4_least_70 : decode cX4_least 70 = .ok (.iconst 0, 1) := by decide +kernel
theorem dX4_least_71 : decode cX4_least 71 = .ok (.istore 6, 2) := by decide +kernel
theorem dX4_least_73 : decode cX4_least 73 = .ok (.iload 6, 2) := by decide +kernel
theorem dX4_least_75 : decode cX4_least 75 = .ok (.ifCond .eq 19, 3) := by decide +kernel
theorem dX4_least_78 : decode cX4_least 78 = .ok (.aload_n 0, 1) := by decide +kernel
theorem dX4_least_79 : decode cX4_least 79 = .ok (.iload 5, 2) := by decide +kernel
theorem dX4_least_81 : decode cX4_least 81 = .ok (.iload_n 1, 1) := by decide +kernel
theorem dX4_least_82 : decode cX4_least 82 = .ok (.iload_n 2, 1) := by decide +kernel
theorem dX4_least_83 : decode cX4_least 83 = .ok (.invokevirtual 98, 3) := by decide +kernel
theorem dX4_least_86 : decode cX4_least 86 = .ok (.ifCond .eq 8, 3) := by decide +kernel
theorem dX4_least_89 : decode cX4_least 89 = .ok (.iload 5, 2) := by decide +kernel
theorem dX4_least_91 : decode cX4_least 91 = .ok (.goto 5, 3) := by decide +kernel
theorem dX4_least_94 : decode cX4_least 94 = .ok (.iload 4, 2) := by decide +kernel
theorem dX4_least_96 : decode cX4_least 96 = .ok (.istore 4, 2) := by decide +kernel
theorem dX4_least_98 : decode cX4_least 98 = .ok (.iinc 5 1, 3) := by decide +kernel
theorem dX4_least_101 : decode cX4_least 101 = .ok (.goto (-95), 3) := by decide +kernel
theorem dX4_least_104 : decode cX4_least 104 = .ok (.iload 4, 2) := by decide +kernel
theorem dX4_least_106 : decode cX4_least 106 = .ok (.ireturn, 1) := by decide +kernel
set_option maxRecDepth 20000 in
theorem ggX4_make_X4_nextOf : GoodIn wsX4_make wsX4_nextOf := goodIn_r _ [12, 13, 14, 15, 16, 11, 17, 18, 19, 20, 21, 6, 22, 23, 24, 25, 26, 27, 28, 29, 61, 62, 63, 64, 65, 66, 67, 68, 69, 70, 71, 72, 73, 74, 75, 76] (by decide +kernel) (by decide +kernel)
set_option maxRecDepth 20000 in
theorem gX4_make_X4_nextOf : GoodIn wsX4_make (wsV RX4 104 RX4 yX4_nextOf wsX4_nextOf) := goodIn_app (goodIn_of _ (by decide +kernel)) ggX4_make_X4_nextOf
set_option maxRecDepth 20000 in
theorem ggX4_make_X4_spreadPiece : GoodIn wsX4_make wsX4_spreadPiece := goodIn_r _ [33, 4, 6, 13, 14, 15, 16, 11, 17, 61, 62, 63, 64, 65, 66, 67, 68, 69, 70, 71, 72, 73, 74, 75, 76] (by decide +kernel) (by decide +kernel)
set_option maxRecDepth 20000 in
theorem gX4_make_X4_spreadPiece : GoodIn wsX4_make (wsV RX4 107 RX4 yX4_spreadPiece wsX4_spreadPiece) := goodIn_app (goodIn_of _ (by decide +kernel)) ggX4_make_X4_spreadPiece
set_option maxRecDepth 20000 in
theorem ggX4_make_X4_makeRound : GoodIn wsX4_make wsX4_makeRound := goodIn_r _ [37, 38, 3, 39, 5, 13, 14, 7, 15, 16, 11, 17, 61, 62, 63, 64, 65, 66, 67, 68, 69, 70, 71, 72, 73, 74, 75, 76] (by decide +kernel) (by decide +kernel)
set_option maxRecDepth 20000 in
theorem gX4_make_X4_makeRound : GoodIn wsX4_make (wsV RX4 111 RX4 yX4_makeRound wsX4_makeRound) := goodIn_app (goodIn_of _ (by decide +kernel)) ggX4_make_X4_makeRound
set_option maxRecDepth 20000 in
theorem ggX4_make_X4_number : GoodIn wsX4_make wsX4_number := goodIn_r _ [43, 44, 3, 45, 38, 39, 13, 14, 4, 46, 47, 48, 49, 11, 50, 51, 52, 53, 54, 6, 5, 15, 16, 17, 55, 56, 57, 58, 59, 60, 61, 62, 63, 64, 65, 66, 67, 68, 69, 70, 71, 72, 73, 74, 75, 76] (by decide +kernel) (by decide +kernel)
set_option maxRecDepth 20000 in
theorem gX4_make_X4_number : GoodIn wsX4_make (wsV RX4 115 RX4 yX4_number wsX4_number) := goodIn_app (goodIn_of _ (by decide +kernel)) ggX4_make_X4_number
theorem dX4_make_0 : decode cX4_make 0 = .ok (.aload_n 0, 1) := by decide +kernel
theorem dX4_make_1 : decode cX4_make 1 = .ok (.getfield 76, 3) := by decide +kernel
theorem dX4_make_4 : decode cX4_make 4 = .ok (.ifCond .eq 4, 3) := by decide +kernel
theorem dX4_make_7 : decode cX4_make 7 = .ok (.return_, 1) := by decide +kernel
theorem dX4_make_8 : decode cX4_make 8 = .ok (.aload_n 0, 1) := by decide +kernel
theorem dX4_make_9 : decode cX4_make 9 = .ok (.iconst 1, 1) := by decide +kernel
theorem dX4_make_10 : decode cX4_make 10 = .ok (.putfield 76, 3) := by decide +kernel
theorem dX4_make_13 : decode cX4_make 13 = .ok (.aload_n 0, 1) := by decide +kernel
theorem dX4_make_14 : decode cX4_make 14 = .ok (.iconst 0, 1) := by decide +kernel
theorem dX4_make_15 : decode cX4_make 15 = .ok (.putfield 101, 3) := by decide +kernel
theorem dX4_make_18 : decode cX4_make 18 = .ok (.aload_n 0, 1) := by decide +kernel
theorem dX4_make_19 : decode cX4_make 19 = .ok (.iconst 0, 1) := by decide +kernel
theorem dX4_make_20 : decode cX4_make 20 = .ok (.putfield 95, 3) := by decide +kernel
theorem dX4_make_23 : decode cX4_make 23 = .ok (.iconst 0, 1) := by decide +kernel
theorem dX4_make_24 : decode cX4_make 24 = .ok (.istore_n 1, 1) := by decide +kernel
theorem dX4_make_25 : decode cX4_make 25 = .ok (.iload_n 1, 1) := by decide +kernel
theorem dX4_make_26 : decode cX4_make 26 = .ok (.bipush 120, 2) := by decide +kernel
theorem dX4_make_28 : decode cX4_make 28 = .ok (.if_icmp .ge 23, 3) := by decide +kernel
theorem dX4_make_31 : decode cX4_make 31 = .ok (.aload_n 0, 1) := by decide +kernel
theorem dX4_make_32 : decode cX4_make 32 = .ok (.getfield 23, 3) := by decide +kernel
theorem dX4_make_35 : decode cX4_make 35 = .ok (.iload_n 1, 1) := by decide +kernel
theorem dX4_make_36 : decode cX4_make 36 = .ok (.iconst (-1), 1) := by decide +kernel
theorem dX4_make_37 : decode cX4_make 37 = .ok (.iastore, 1) := by decide +kernel
theorem dX4_make_38 : decode cX4_make 38 = .ok (.aload_n 0, 1) := by decide +kernel
theorem dX4_make_39 : decode cX4_make 39 = .ok (.getfield 26, 3) := by decide +kernel
theorem dX4_make_42 : decode cX4_make 42 = .ok (.iload_n 1, 1) := by decide +kernel
theorem dX4_make_43 : decode cX4_make 43 = .ok (.iconst (-1), 1) := by decide +kernel
theorem dX4_make_44 : decode cX4_make 44 = .ok (.iastore, 1) := by decide +kernel
theorem dX4_make_45 : decode cX4_make 45 = .ok (.iinc 1 1, 3) := by decide +kernel
theorem dX4_make_48 : decode cX4_make 48 = .ok (.goto (-23), 3) := by decide +kernel
theorem dX4_make_51 : decode cX4_make 51 = .ok (.iconst 0, 1) := by decide +kernel
theorem dX4_make_52 : decode cX4_make 52 = .ok (.istore_n 1, 1) := by decide +kernel
theorem dX4_make_53 : decode cX4_make 53 = .ok (.iload_n 1, 1) := by decide +kernel
theorem dX4_make_54 : decode cX4_make 54 = .ok (.bipush 120, 2) := by decide +kernel
theorem dX4_make_56 : decode cX4_make 56 = .ok (.if_icmp .ge 59, 3) := by decide +kernel
theorem dX4_make_59 : decode cX4_make 59 = .ok (.aload_n 0, 1) := by decide +kernel
theorem dX4_make_60 : decode cX4_make 60 = .ok (.getfield 7, 3) := by decide +kernel
theorem dX4_make_63 : decode cX4_make 63 = .ok (.iload_n 1, 1) := by decide +kernel
theorem dX4_make_64 : decode cX4_make 64 = .ok (.iconst 2, 1) := by decide +kernel
theorem dX4_make_65 : decode cX4_make 65 = .ok (.idiv, 1) := by decide +kernel
theorem dX4_make_66 : decode cX4_make 66 = .ok (.baload, 1) := by decide +kernel
theorem dX4_make_67 : decode cX4_make 67 = .ok (.ifCond .eq 42, 3) := by decide +kernel
theorem dX4_make_70 : decode cX4_make 70 = .ok (.aload_n 0, 1) := by decide +kernel
theorem dX4_make_71 : decode cX4_make 71 = .ok (.getfield 20, 3) := by decide +kernel
theorem dX4_make_74 : decode cX4_make 74 = .ok (.iload_n 1, 1) := by decide +kernel
theorem dX4_make_75 : decode cX4_make 75 = .ok (.aload_n 0, 1) := by decide +kernel
theorem dX4_make_76 : decode cX4_make 76 = .ok (.iload_n 1, 1) := by decide +kernel
theorem dX4_make_77 : decode cX4_make 77 = .ok (.invokevirtual 104, 3) := by decide +kernel
theorem dX4_make_80 : decode cX4_make 80 = .ok (.iastore, 1) := by decide +kernel
theorem dX4_make_81 : decode cX4_make 81 = .ok (.aload_n 0, 1) := by decide +kernel
theorem dX4_make_82 : decode cX4_make 82 = .ok (.getfield 23, 3) := by decide +kernel
theorem dX4_make_85 : decode cX4_make 85 = .ok (.iload_n 1, 1) := by decide +kernel
theorem dX4_make_86 : decode cX4_make 86 = .ok (.iaload, 1) := by decide +kernel
theorem dX4_make_87 : decode cX4_make 87 = .ok (.ifCond .ge 22, 3) := by decide +kernel
theorem dX4_make_90 : decode cX4_make 90 = .ok (.aload_n 0, 1) := by decide +kernel
theorem dX4_make_91 : decode cX4_make 91 = .ok (.iload_n 1, 1) := by decide +kernel
theorem dX4_make_92 : decode cX4_make 92 = .ok (.aload_n 0, 1) := by decide +kernel
theorem dX4_make_93 : decode cX4_make 93 = .ok (.getfield 101, 3) := by decide +kernel
theorem dX4_make_96 : decode cX4_make 96 = .ok (.invokevirtual 107, 3) := by decide +kernel
theorem dX4_make_99 : decode cX4_make 99 = .ok (.aload_n 0, 1) := by decide +kernel
theorem dX4_make_100 : decode cX4_make 100 = .ok (.dup, 1) := by decide +kernel
theorem dX4_make_101 : decode cX4_make 101 = .ok (.getfield 101, 3) := by decide +kernel
theorem dX4_make_104 : decode cX4_make 104 = .ok (.iconst 1, 1) := by decide +kernel
theorem dX4_make_105 : decode cX4_make 105 = .ok (.iadd, 1) := by decide +kernel
theorem dX4_make_106 : decode cX4_make 106 = .ok (.putfield 101, 3) := by decide +kernel
theorem dX4_make_109 : decode cX4_make 109 = .ok (.iinc 1 1, 3) := by decide +kernel
theorem dX4_make_112 : decode cX4_make 112 = .ok (.goto (-59), 3) := by decide +kernel
theorem dX4_make_115 : decode cX4_make 115 = .ok (.iconst 0, 1) := by decide +kernel
theorem dX4_make_116 : decode cX4_make 116 = .ok (.istore_n 1, 1) := by decide +kernel
theorem dX4_make_117 : decode cX4_make 117 = .ok (.iload_n 1, 1) := by decide +kernel
theorem dX4_make_118 : decode cX4_make 118 = .ok (.bipush 120, 2) := by decide +kernel
theorem dX4_make_120 : decode cX4_make 120 = .ok (.if_icmp .ge 34, 3) := by decide +kernel
theorem dX4_make_123 : decode cX4_make 123 = .ok (.aload_n 0, 1) := by decide +kernel
theorem dX4_make_124 : decode cX4_make 124 = .ok (.getfield 7, 3) := by decide +kernel
theorem dX4_make_127 : decode cX4_make 127 = .ok (.iload_n 1, 1) := by decide +kernel
theorem dX4_make_128 : decode cX4_make 128 = .ok (.iconst 2, 1) := by decide +kernel
theorem dX4_make_129 : decode cX4_make 129 = .ok (.idiv, 1) := by decide +kernel
theorem dX4_make_130 : decode cX4_make 130 = .ok (.baload, 1) := by decide +kernel
theorem dX4_make_131 : decode cX4_make 131 = .ok (.ifCond .eq 17, 3) := by decide +kernel
theorem dX4_make_134 : decode cX4_make 134 = .ok (.aload_n 0, 1) := by decide +kernel
theorem dX4_make_135 : decode cX4_make 135 = .ok (.getfield 26, 3) := by decide +kernel
theorem dX4_make_138 : decode cX4_make 138 = .ok (.iload_n 1, 1) := by decide +kernel
theorem dX4_make_139 : decode cX4_make 139 = .ok (.iaload, 1) := by decide +kernel
theorem dX4_make_140 : decode cX4_make 140 = .ok (.ifCond .ge 8, 3) := by decide +kernel
theorem dX4_make_143 : decode cX4_make 143 = .ok (.aload_n 0, 1) := by decide +kernel
theorem dX4_make_144 : decode cX4_make 144 = .ok (.iload_n 1, 1) := by decide +kernel
theorem dX4_make_145 : decode cX4_make 145 = .ok (.invokevirtual 111, 3) := by decide +kernel
theorem dX4_make_148 : decode cX4_make 148 = .ok (.iinc 1 1, 3) := by decide +kernel
theorem dX4_make_151 : decode cX4_make 151 = .ok (.goto (-34), 3) := by decide +kernel
theorem dX4_make_154 : decode cX4_make 154 = .ok (.aload_n 0, 1) := by decide +kernel
theorem dX4_make_155 : decode cX4_make 155 = .ok (.invokevirtual 115, 3) := by decide +kernel
theorem dX4_make_158 : decode cX4_make 158 = .ok (.return_, 1) := by decide +kernel
set_option maxRecDepth 20000 in
theorem ggX4_number_X4_least : GoodIn wsX4_number wsX4_least := goodIn_r _ [14, 2, 5, 8, 4, 15, 16, 17, 13, 18, 19, 20, 6, 7, 21, 22, 23, 24, 25, 26, 27, 28, 29, 30, 31, 32, 33, 34, 35, 36, 37, 38, 39, 40, 41, 42, 43, 44, 45] (by decide +kernel) (by decide +kernel)
set_option maxRecDepth 20000 in
theorem gX4_number_X4_least : GoodIn wsX4_number (wsV RX4 121 RX4 yX4_least wsX4_least) := goodIn_app (goodIn_of _ (by decide +kernel)) ggX4_number_X4_least
theorem dX4_number_0 : decode cX4_number 0 = .ok (.aload_n 0, 1) := by decide +kernel
theorem dX4_number_1 : decode cX4_number 1 = .ok (.iconst 1, 1) := by decide +kernel
theorem dX4_number_2 : decode cX4_number 2 = .ok (.putfield 118, 3) := by decide +kernel
theorem dX4_number_5 : decode cX4_number 5 = .ok (.iconst 0, 1) := by decide +kernel
theorem dX4_number_6 : decode cX4_number 6 = .ok (.istore_n 1, 1) := by decide +kernel
theorem dX4_number_7 : decode cX4_number 7 = .ok (.iload_n 1, 1) := by decide +kernel
theorem dX4_number_8 : decode cX4_number 8 = .ok (.aload_n 0, 1) := by decide +kernel
theorem dX4_number_9 : decode cX4_number 9 = .ok (.getfield 95, 3) := by decide +kernel
theorem dX4_number_12 : decode cX4_number 12 = .ok (.if_icmp .gt 16, 3) := by decide +kernel
theorem dX4_number_15 : decode cX4_number 15 = .ok (.aload_n 0, 1) := by decide +kernel
theorem dX4_number_16 : decode cX4_number 16 = .ok (.getfield 39, 3) := by decide +kernel
theorem dX4_number_19 : decode cX4_number 19 = .ok (.iload_n 1, 1) := by decide +kernel
theorem dX4_number_20 : decode cX4_number 20 = .ok (.iconst (-1), 1) := by decide +kernel
theorem dX4_number_21 : decode cX4_number 21 = .ok (.iastore, 1) := by decide +kernel
theorem dX4_number_22 : decode cX4_number 22 = .ok (.iinc 1 1, 3) := by decide +kernel
theorem dX4_number_25 : decode cX4_number 25 = .ok (.goto (-18), 3) := by decide +kernel
theorem dX4_number_28 : decode cX4_number 28 = .ok (.iconst 0, 1) := by decide +kernel
theorem dX4_number_29 : decode cX4_number 29 = .ok (.istore_n 1, 1) := by decide +kernel
theorem dX4_number_30 : decode cX4_number 30 = .ok (.iload_n 1, 1) := by decide +kernel
theorem dX4_number_31 : decode cX4_number 31 = .ok (.aload_n 0, 1) := by decide +kernel
theorem dX4_number_32 : decode cX4_number 32 = .ok (.getfield 95, 3) := by decide +kernel
theorem dX4_number_35 : decode cX4_number 35 = .ok (.if_icmp .ge 109, 3) := by decide +kernel
theorem dX4_number_38 : decode cX4_number 38 = .ok (.aload_n 0, 1) := by decide +kernel
theorem dX4_number_39 : decode cX4_number 39 = .ok (.getfield 29, 3) := by decide +kernel
theorem dX4_number_42 : decode cX4_number 42 = .ok (.iload_n 1, 1) := by decide +kernel
theorem dX4_number_43 : decode cX4_number 43 = .ok (.iaload, 1) := by decide +kernel
theorem dX4_number_44 : decode cX4_number 44 = .ok (.istore_n 2, 1) := by decide +kernel
theorem dX4_number_45 : decode cX4_number 45 = .ok (.aload_n 0, 1) := by decide +kernel
theorem dX4_number_46 : decode cX4_number 46 = .ok (.getfield 32, 3) := by decide +kernel
theorem dX4_number_49 : decode cX4_number 49 = .ok (.iload_n 1, 1) := by decide +kernel
theorem dX4_number_50 : decode cX4_number 50 = .ok (.laload, 1) := by decide +kernel
theorem dX4_number_51 : decode cX4_number 51 = .ok (.lconst 0, 1) := by decide +kernel
theorem dX4_number_52 : decode cX4_number 52 = .ok (.lcmp, 1) := by decide +kernel
theorem dX4_number_53 : decode cX4_number 53 = .ok (.ifCond .le 7, 3) := by decide +kernel
theorem dX4_number_56 : decode cX4_number 56 = .ok (.iload_n 1, 1) := by decide +kernel
theorem dX4_number_57 : decode cX4_number 57 = .ok (.goto 25, 3) := by decide +kernel
theorem dX4_number_60 : decode cX4_number 60 = .ok (.aload_n 0, 1) := by decide +kernel
theorem dX4_number_61 : decode cX4_number 61 = .ok (.aload_n 0, 1) := by decide +kernel
theorem dX4_number_62 : decode cX4_number 62 = .ok (.getfield 13, 3) := by decide +kernel
theorem dX4_number_65 : decode cX4_number 65 = .ok (.iload_n 2, 1) := by decide +kernel
theorem dX4_number_66 : decode cX4_number 66 = .ok (.iaload, 1) := by decide +kernel
theorem dX4_number_67 : decode cX4_number 67 = .ok (.aload_n 0, 1) := by decide +kernel
theorem dX4_number_68 : decode cX4_number 68 = .ok (.getfield 17, 3) := by decide +kernel
theorem dX4_number_71 : decode cX4_number 71 = .ok (.iload_n 2, 1) := by decide +kernel
theorem dX4_number_72 : decode cX4_number 72 = .ok (.iaload, 1) := by decide +kernel
theorem dX4_number_73 : decode cX4_number 73 = .ok (.aload_n 0, 1) := by decide +kernel
theorem dX4_number_74 : decode cX4_number 74 = .ok (.getfield 23, 3) := by decide +kernel
theorem dX4_number_77 : decode cX4_number 77 = .ok (.iload_n 2, 1) := by decide +kernel
theorem dX4_number_78 : decode cX4_number 78 = .ok (.iaload, 1) := by decide +kernel
theorem dX4_number_79 : decode cX4_number 79 = .ok (.invokevirtual 121, 3) := by decide +kernel
theorem dX4_number_82 : decode cX4_number 82 = .ok (.istore_n 3, 1) := by decide +kernel
theorem dX4_number_83 : decode cX4_number 83 = .ok (.iload_n 3, 1) := by decide +kernel
theorem dX4_number_84 : decode cX4_number 84 = .ok (.ifCond .ge 13, 3) := by decide +kernel
theorem dX4_number_87 : decode cX4_number 87 = .ok (.aload_n 0, 1) := by decide +kernel
theorem dX4_number_88 : decode cX4_number 88 = .ok (.getfield 36, 3) := by decide +kernel
theorem dX4_number_91 : decode cX4_number 91 = .ok (.iload_n 1, 1) := by decide +kernel
theorem dX4_number_92 : decode cX4_number 92 = .ok (.iconst 0, 1) := by decide +kernel
theorem dX4_number_93 : decode cX4_number 93 = .ok (.iastore, 1) := by decide +kernel
theorem dX4_number_94 : decode cX4_number 94 = .ok (.goto 44, 3) := by decide +kernel
theorem dX4_number_97 : decode cX4_number 97 = .ok (.aload_n 0, 1) := by decide +kernel
theorem dX4_number_98 : decode cX4_number 98 = .ok (.getfield 39, 3) := by decide +kernel
theorem dX4_number_101 : decode cX4_number 101 = .ok (.iload_n 3, 1) := by decide +kernel
theorem dX4_number_102 : decode cX4_number 102 = .ok (.iaload, 1) := by decide +kernel
theorem dX4_number_103 : decode cX4_number 103 = .ok (.ifCond .ge 23, 3) := by decide +kernel
theorem dX4_number_106 : decode cX4_number 106 = .ok (.aload_n 0, 1) := by decide +kernel
theorem dX4_number_107 : decode cX4_number 107 = .ok (.getfield 39, 3) := by decide +kernel
theorem dX4_number_110 : decode cX4_number 110 = .ok (.iload_n 3, 1) := by decide +kernel
theorem dX4_number_111 : decode cX4_number 111 = .ok (.aload_n 0, 1) := by decide +kernel
theorem dX4_number_112 : decode cX4_number 112 = .ok (.getfield 118, 3) := by decide +kernel
theorem dX4_number_115 : decode cX4_number 115 = .ok (.iastore, 1) := by decide +kernel
theorem dX4_number_116 : decode cX4_number 116 = .ok (.aload_n 0, 1) := by decide +kernel
theorem dX4_number_117 : decode cX4_number 117 = .ok (.dup, 1) := by decide +kernel
theorem dX4_number_118 : decode cX4_number 118 = .ok (.getfield 118, 3) := by decide +kernel
theorem dX4_number_121 : decode cX4_number 121 = .ok (.iconst 1, 1) := by decide +kernel
theorem dX4_number_122 : decode cX4_number 122 = .ok (.iadd, 1) := by decide +kernel
theorem dX4_number_123 : decode cX4_number 123 = .ok (.putfield 118, 3) := by decide +kernel
theorem dX4_number_126 : decode cX4_number 126 = .ok (.aload_n 0, 1) := by decide +kernel
theorem dX4_number_127 : decode cX4_number 127 = .ok (.getfield 36, 3) := by decide +kernel
theorem dX4_number_130 : decode cX4_number 130 = .ok (.iload_n 1, 1) := by decide +kernel
theorem dX4_number_131 : decode cX4_number 131 = .ok (.aload_n 0, 1) := by decide +kernel
theorem dX4_number_132 : decode cX4_number 132 = .ok (.getfield 39, 3) := by decide +kernel
theorem dX4_number_135 : decode cX4_number 135 = .ok (.iload_n 3, 1) := by decide +kernel
theorem dX4_number_136 : decode cX4_number 136 = .ok (.iaload, 1) := by decide +kernel
theorem dX4_number_137 : decode cX4_number 137 = .ok (.iastore, 1) := by decide +kernel
theorem dX4_number_138 : decode cX4_number 138 = .ok (.iinc 1 1, 3) := by decide +kernel
theorem dX4_number_141 : decode cX4_number 141 = .ok (.goto (-111), 3) := by decide +kernel
theorem dX4_number_144 : decode cX4_number 144 = .ok (.return_, 1) := by decide +kernel
theorem dX4_left_0 : decode cX4_left 0 = .ok (.aload_n 0, 1) := by decide +kernel
theorem dX4_left_1 : decode cX4_left 1 = .ok (.getfield 36, 3) := by decide +kernel
theorem dX4_left_4 : decode cX4_left 4 = .ok (.aload_n 0, 1) := by decide +kernel
theorem dX4_left_5 : decode cX4_left 5 = .ok (.getfield 26, 3) := by decide +kernel
theorem dX4_left_8 : decode cX4_left 8 = .ok (.iload_n 1, 1) := by decide +kernel
theorem dX4_left_9 : decode cX4_left 9 = .ok (.iaload, 1) := by decide +kernel
theorem dX4_left_10 : decode cX4_left 10 = .ok (.iaload, 1) := by decide +kernel
theorem dX4_left_11 : decode cX4_left 11 = .ok (.ireturn, 1) := by decide +kernel
set_option maxRecDepth 20000 in
theorem ggX4_count_X4_make : GoodIn wsX4_count wsX4_make := goodIn_r _ [12, 13, 3, 4, 14, 15, 5, 16, 17, 18, 19, 11, 20, 6, 7, 21, 22, 23, 24, 25, 26, 27, 28, 29, 30, 31, 32, 33, 34, 35, 36, 37, 38, 39, 40, 41, 42, 43, 44, 45, 46, 47, 48, 49, 2, 50, 51, 52, 53, 54, 55, 56, 57, 58, 59, 60, 61, 62, 63, 64, 65, 70, 71, 72, 73, 74, 75, 76, 77, 78, 79, 80, 81, 82, 83, 84, 85] (by decide +kernel) (by decide +kernel)
set_option maxRecDepth 20000 in
theorem gX4_count_X4_make : GoodIn wsX4_count (wsV RX4 125 RX4 yX4_make wsX4_make) := goodIn_app (goodIn_of _ (by decide +kernel)) ggX4_count_X4_make
set_option maxRecDepth 20000 in
theorem ggX4_count_X4_leaves : GoodIn wsX4_count wsX4_leaves := goodIn_r _ [27, 5, 6, 7, 70, 71, 72, 73, 74, 75, 76, 77, 78, 79, 80, 81, 82, 83, 84, 85] (by decide +kernel) (by decide +kernel)
set_option maxRecDepth 20000 in
theorem gX4_count_X4_leaves : GoodIn wsX4_count (wsV RX4 88 RX4 yX4_leaves wsX4_leaves) := goodIn_app (goodIn_of _ (by decide +kernel)) ggX4_count_X4_leaves
set_option maxRecDepth 20000 in
theorem ggX4_count_X4_left : GoodIn wsX4_count wsX4_left := goodIn_r _ [69, 51, 15, 70, 71, 72, 73, 74, 75, 76, 77, 78, 79, 80, 81, 82, 83, 84, 85] (by decide +kernel) (by decide +kernel)
set_option maxRecDepth 20000 in
theorem gX4_count_X4_left : GoodIn wsX4_count (wsV RX4 128 RX4 yX4_left wsX4_left) := goodIn_app (goodIn_of _ (by decide +kernel)) ggX4_count_X4_left
theorem dX4_count_0 : decode cX4_count 0 = .ok (.aload_n 0, 1) := by decide +kernel
theorem dX4_count_1 : decode cX4_count 1 = .ok (.iconst 0, 1) := by decide +kernel
theorem dX4_count_2 : decode cX4_count 2 = .ok (.putfield 45, 3) := by decide +kernel
theorem dX4_count_5 : decode cX4_count 5 = .ok (.aload_n 0, 1) := by decide +kernel
theorem dX4_count_6 : decode cX4_count 6 = .ok (.invokevirtual 125, 3) := by decide +kernel
theorem dX4_count_9 : decode cX4_count 9 = .ok (.iload_n 1, 1) := by decide +kernel
theorem dX4_count_10 : decode cX4_count 10 = .ok (.iconst 2, 1) := by decide +kernel
theorem dX4_count_11 : decode cX4_count 11 = .ok (.if_icmp .eq 13, 3) := by decide +kernel
theorem dX4_count_14 : decode cX4_count 14 = .ok (.iload_n 1, 1) := by decide +kernel
theorem dX4_count_15 : decode cX4_count 15 = .ok (.iconst 3, 1) := by decide +kernel
theorem dX4_count_16 : decode cX4_count 16 = .ok (.if_icmp .eq 8, 3) := by decide +kernel
theorem dX4_count_19 : decode cX4_count 19 = .ok (.iload_n 1, 1) := by decide +kernel
theorem dX4_count_20 : decode cX4_count 20 = .ok (.iconst 5, 1) := by decide +kernel
theorem dX4_count_21 : decode cX4_count 21 = .ok (.if_icmp .ne 32, 3) := by decide +kernel
theorem dX4_count_24 : decode cX4_count 24 = .ok (.iload_n 1, 1) := by decide +kernel
theorem dX4_count_25 : decode cX4_count 25 = .ok (.iconst 2, 1) := by decide +kernel
theorem dX4_count_26 : decode cX4_count 26 = .ok (.if_icmp .ne 10, 3) := by decide +kernel
theorem dX4_count_29 : decode cX4_count 29 = .ok (.aload_n 0, 1) := by decide +kernel
theorem dX4_count_30 : decode cX4_count 30 = .ok (.getfield 118, 3) := by decide +kernel
theorem dX4_count_33 : decode cX4_count 33 = .ok (.goto 19, 3) := by decide +kernel
theorem dX4_count_36 : decode cX4_count 36 = .ok (.iload_n 1, 1) := by decide +kernel
theorem dX4_count_37 : decode cX4_count 37 = .ok (.iconst 3, 1) := by decide +kernel
theorem dX4_count_38 : decode cX4_count 38 = .ok (.if_icmp .ne 10, 3) := by decide +kernel
theorem dX4_count_41 : decode cX4_count 41 = .ok (.aload_n 0, 1) := by decide +kernel
theorem dX4_count_42 : decode cX4_count 42 = .ok (.getfield 101, 3) := by decide +kernel
theorem dX4_count_45 : decode cX4_count 45 = .ok (.goto 7, 3) := by decide +kernel
theorem dX4_count_48 : decode cX4_count 48 = .ok (.aload_n 0, 1) := by decide +kernel
theorem dX4_count_49 : decode cX4_count 49 = .ok (.getfield 95, 3) := by decide +kernel
theorem dX4_count_52 : decode cX4_count 52 = .ok (.ireturn, 1) := by decide +kernel
theorem dX4_count_53 : decode cX4_count 53 = .ok (.iconst 0, 1) := by decide +kernel
theorem dX4_count_54 : decode cX4_count 54 = .ok (.istore_n 2, 1) := by decide +kernel
theorem dX4_count_55 : decode cX4_count 55 = .ok (.iconst 0, 1) := by decide +kernel
theorem dX4_count_56 : decode cX4_count 56 = .ok (.istore_n 3, 1) := by decide +kernel
theorem dX4_count_57 : decode cX4_count 57 = .ok (.iload_n 3, 1) := by decide +kernel
theorem dX4_count_58 : decode cX4_count 58 = .ok (.bipush 120, 2) := by decide +kernel
theorem dX4_count_60 : decode cX4_count 60 = .ok (.if_icmp .ge 126, 3) := by decide +kernel
theorem dX4_count_63 : decode cX4_count 63 = .ok (.aload_n 0, 1) := by decide +kernel
theorem dX4_count_64 : decode cX4_count 64 = .ok (.getfield 7, 3) := by decide +kernel
theorem dX4_count_67 : decode cX4_count 67 = .ok (.iload_n 3, 1) := by decide +kernel
theorem dX4_count_68 : decode cX4_count 68 = .ok (.iconst 2, 1) := by decide +kernel
theorem dX4_count_69 : decode cX4_count 69 = .ok (.idiv, 1) := by decide +kernel
theorem dX4_count_70 : decode cX4_count 70 = .ok (.baload, 1) := by decide +kernel
theorem dX4_count_71 : decode cX4_count 71 = .ok (.ifCond .eq 109, 3) := by decide +kernel
theorem dX4_count_74 : decode cX4_count 74 = .ok (.iconst 1, 1) := by decide +kernel
theorem dX4_count_75 : decode cX4_count 75 = .ok (.istore 4, 2) := by decide +kernel
theorem dX4_count_77 : decode cX4_count 77 = .ok (.iconst 0, 1) := by decide +kernel
theorem dX4_count_78 : decode cX4_count 78 = .ok (.istore 5, 2) := by decide +kernel
theorem dX4_count_80 : decode cX4_count 80 = .ok (.iload 5, 2) := by decide +kernel
theorem dX4_count_82 : decode cX4_count 82 = .ok (.iload_n 3, 1) := by decide +kernel
theorem dX4_count_83 : decode cX4_count 83 = .ok (.if_icmp .ge 42, 3) := by decide +kernel
theorem dX4_count_86 : decode cX4_count 86 = .ok (.iload 4, 2) := by decide +kernel
theorem dX4_count_88 : decode cX4_count 88 = .ok (.ifCond .eq 28, 3) := by decide +kernel
theorem dX4_count_91 : decode cX4_count 91 = .ok (.aload_n 0, 1) := by decide +kernel
theorem dX4_count_92 : decode cX4_count 92 = .ok (.iload 5, 2) := by decide +kernel
theorem dX4_count_94 : decode cX4_count 94 = .ok (.aload_n 0, 1) := by decide +kernel
theorem dX4_count_95 : decode cX4_count 95 = .ok (.getfield 13, 3) := by decide +kernel
theorem dX4_count_98 : decode cX4_count 98 = .ok (.iload_n 3, 1) := by decide +kernel
theorem dX4_count_99 : decode cX4_count 99 = .ok (.iaload, 1) := by decide +kernel
theorem dX4_count_100 : decode cX4_count 100 = .ok (.aload_n 0, 1) := by decide +kernel
theorem dX4_count_101 : decode cX4_count 101 = .ok (.getfield 17, 3) := by decide +kernel
theorem dX4_count_104 : decode cX4_count 104 = .ok (.iload_n 3, 1) := by decide +kernel
theorem dX4_count_105 : decode cX4_count 105 = .ok (.iaload, 1) := by decide +kernel
theorem dX4_count_106 : decode cX4_count 106 = .ok (.invokevirtual 88, 3) := by decide +kernel
theorem dX4_count_109 : decode cX4_count 109 = .ok (.ifCond .ne 7, 3) := by decide +kernel
theorem dX4_count_112 : decode cX4_count 112 = .ok (.iconst 1, 1) := by decide +kernel
theorem dX4_count_113 : decode cX4_count 113 = .ok (.goto 4, 3) := by decide +kernel
theorem dX4_count_116 : decode cX4_count 116 = .ok (.iconst 0, 1) := by decide +kernel
theorem dX4_count_117 : decode cX4_count 117 = .ok (.istore 4, 2) := by decide +kernel
theorem dX4_count_119 : decode cX4_count 119 = .ok (.iinc 5 1, 3) := by decide +kernel
theorem dX4_count_122 : decode cX4_count 122 = .ok (.goto (-42), 3) := by decide +kernel
theorem dX4_count_125 : decode cX4_count 125 = .ok (.iload_n 1, 1) := by decide +kernel
theorem dX4_count_126 : decode cX4_count 126 = .ok (.iconst 1, 1) := by decide +kernel
theorem dX4_count_127 : decode cX4_count 127 = .ok (.if_icmp .ne 8, 3) := by decide +kernel
theorem dX4_count_130 : decode cX4_count 130 = .ok (.iload 4, 2) := by decide +kernel
theorem dX4_count_132 : decode cX4_count 132 = .ok (.goto 33, 3) := by decide +kernel
theorem dX4_count_135 : decode cX4_count 135 = .ok (.iload_n 3, 1) := by decide +kernel
theorem dX4_count_136 : decode cX4_count 136 = .ok (.iconst 2, 1) := by decide +kernel
theorem dX4_count_137 : decode cX4_count 137 = .ok (.irem, 1) := by decide +kernel
theorem dX4_count_138 : decode cX4_count 138 = .ok (.ifCond .ne 26, 3) := by decide +kernel
theorem dX4_count_141 : decode cX4_count 141 = .ok (.iload_n 1, 1) := by decide +kernel
theorem dX4_count_142 : decode cX4_count 142 = .ok (.ifCond .eq 18, 3) := by decide +kernel
theorem dX4_count_145 : decode cX4_count 145 = .ok (.aload_n 0, 1) := by decide +kernel
theorem dX4_count_146 : decode cX4_count 146 = .ok (.iload_n 3, 1) := by decide +kernel
theorem dX4_count_147 : decode cX4_count 147 = .ok (.invokevirtual 128, 3) := by decide +kernel
theorem dX4_count_150 : decode cX4_count 150 = .ok (.aload_n 0, 1) := by decide +kernel
theorem dX4_count_151 : decode cX4_count 151 = .ok (.iload_n 3, 1) := by decide +kernel
theorem dX4_count_152 : decode cX4_count 152 = .ok (.iconst 1, 1) := by decide +kernel
theorem dX4_count_153 : decode cX4_count 153 = .ok (.iadd, 1) := by decide +kernel
theorem dX4_count_154 : decode cX4_count 154 = .ok (.invokevirtual 128, 3) := by decide +kernel
theorem dX4_count_157 : decode cX4_count 157 = .ok (.if_icmp .ne 7, 3) := by decide +kernel
theorem dX4_count_160 : decode cX4_count 160 = .ok (.iconst 1, 1) := by decide +kernel
theorem dX4_count_161 : decode cX4_count 161 = .ok (.goto 4, 3) := by decide +kernel
theorem dX4_count_164 : decode cX4_count 164 = .ok (.iconst 0, 1) := by decide +kernel
theorem dX4_count_165 : decode cX4_count 165 = .ok (.istore 5, 2) := by decide +kernel
theorem dX4_count_167 : decode cX4_count 167 = .ok (.iload 5, 2) := by decide +kernel
theorem dX4_count_169 : decode cX4_count 169 = .ok (.ifCond .eq 9, 3) := by decide +kernel
theorem dX4_count_172 : decode cX4_count 172 = .ok (.iload_n 2, 1) := by decide +kernel
theorem dX4_count_173 : decode cX4_count 173 = .ok (.iconst 1, 1) := by decide +kernel
theorem dX4_count_174 : decode cX4_count 174 = .ok (.iadd, 1) := by decide +kernel
theorem dX4_count_175 : decode cX4_count 175 = .ok (.goto 4, 3) := by decide +kernel
theorem dX4_count_178 : decode cX4_count 178 = .ok (.iload_n 2, 1) := by decide +kernel
theorem dX4_count_179 : decode cX4_count 179 = .ok (.istore_n 2, 1) := by decide +kernel
theorem dX4_count_180 : decode cX4_count 180 = .ok (.iinc 3 1, 3) := by decide +kernel
theorem dX4_count_183 : decode cX4_count 183 = .ok (.goto (-126), 3) := by decide +kernel
theorem dX4_count_186 : decode cX4_count 186 = .ok (.iload_n 1, 1) := by decide +kernel
theorem dX4_count_187 : decode cX4_count 187 = .ok (.ifCond .eq 13, 3) := by decide +kernel
theorem dX4_count_190 : decode cX4_count 190 = .ok (.iload_n 1, 1) := by decide +kernel
theorem dX4_count_191 : decode cX4_count 191 = .ok (.iconst 1, 1) := by decide +kernel
theorem dX4_count_192 : decode cX4_count 192 = .ok (.if_icmp .eq 8, 3) := by decide +kernel
theorem dX4_count_195 : decode cX4_count 195 = .ok (.iload_n 1, 1) := by decide +kernel
theorem dX4_count_196 : decode cX4_count 196 = .ok (.iconst 4, 1) := by decide +kernel
theorem dX4_count_197 : decode cX4_count 197 = .ok (.if_icmp .ne 7, 3) := by decide +kernel
theorem dX4_count_200 : decode cX4_count 200 = .ok (.iload_n 2, 1) := by decide +kernel
theorem dX4_count_201 : decode cX4_count 201 = .ok (.goto 4, 3) := by decide +kernel
theorem dX4_count_204 : decode cX4_count 204 = .ok (.iconst (-1), 1) := by decide +kernel
theorem dX4_count_205 : decode cX4_count 205 = .ok (.ireturn, 1) := by decide +kernel
set_option maxRecDepth 20000 in
theorem ggX4_begins_X4_isHalf : GoodIn wsX4_begins wsX4_isHalf := goodIn_r _ [7, 8, 14, 15, 16, 17, 18, 19, 20, 21, 22, 23, 24, 25, 26, 27, 28, 29] (by decide +kernel) (by decide +kernel)
set_option maxRecDepth 20000 in
theorem gX4_begins_X4_isHalf : GoodIn wsX4_begins (wsV RX4 131 RX4 yX4_isHalf wsX4_isHalf) := goodIn_app (goodIn_of _ (by decide +kernel)) ggX4_begins_X4_isHalf
set_option maxRecDepth 20000 in
theorem ggX4_begins_X4_refused : GoodIn wsX4_begins wsX4_refused := goodIn_r _ [12, 13, 14, 15, 16, 17, 18, 19, 20, 21, 22, 23, 24, 25, 26, 27, 28, 29] (by decide +kernel) (by decide +kernel)
set_option maxRecDepth 20000 in
theorem gX4_begins_X4_refused : GoodIn wsX4_begins (wsV RX4 69 RX4 yX4_refused wsX4_refused) := goodIn_app (goodIn_of _ (by decide +kernel)) ggX4_begins_X4_refused
theorem dX4_begins_0 : decode cX4_begins 0 = .ok (.aload_n 0, 1) := by decide +kernel
theorem dX4_begins_1 : decode cX4_begins 1 = .ok (.aload_n 0, 1) := by decide +kernel
theorem dX4_begins_2 : decode cX4_begins 2 = .ok (.iload_n 1, 1) := by decide +kernel
theorem dX4_begins_3 : decode cX4_begins 3 = .ok (.invokevirtual 131, 3) := by decide +kernel
theorem dX4_begins_6 : decode cX4_begins 6 = .ok (.ifCond .eq 7, 3) := by decide +kernel
theorem dX4_begins_9 : decode cX4_begins 9 = .ok (.iconst 0, 1) := by decide +kernel
theorem dX4_begins_10 : decode cX4_begins 10 = .ok (.goto 4, 3) := by decide +kernel
theorem dX4_begins_13 : decode cX4_begins 13 = .ok (.iconst 1, 1) := by decide +kernel
theorem dX4_begins_14 : decode cX4_begins 14 = .ok (.invokevirtual 69, 3) := by decide +kernel
theorem dX4_begins_17 : decode cX4_begins 17 = .ok (.ifCond .eq 7, 3) := by decide +kernel
theorem dX4_begins_20 : decode cX4_begins 20 = .ok (.iconst 0, 1) := by decide +kernel
theorem dX4_begins_21 : decode cX4_begins 21 = .ok (.goto 22, 3) := by decide +kernel
theorem dX4_begins_24 : decode cX4_begins 24 = .ok (.iload_n 2, 1) := by decide +kernel
theorem dX4_begins_25 : decode cX4_begins 25 = .ok (.ifCond .eq 12, 3) := by decide +kernel
theorem dX4_begins_28 : decode cX4_begins 28 = .ok (.aload_n 0, 1) := by decide +kernel
theorem dX4_begins_29 : decode cX4_begins 29 = .ok (.getfield 17, 3) := by decide +kernel
theorem dX4_begins_32 : decode cX4_begins 32 = .ok (.iload_n 1, 1) := by decide +kernel
theorem dX4_begins_33 : decode cX4_begins 33 = .ok (.iaload, 1) := by decide +kernel
theorem dX4_begins_34 : decode cX4_begins 34 = .ok (.goto 9, 3) := by decide +kernel
theorem dX4_begins_37 : decode cX4_begins 37 = .ok (.aload_n 0, 1) := by decide +kernel
theorem dX4_begins_38 : decode cX4_begins 38 = .ok (.getfield 13, 3) := by decide +kernel
theorem dX4_begins_41 : decode cX4_begins 41 = .ok (.iload_n 1, 1) := by decide +kernel
theorem dX4_begins_42 : decode cX4_begins 42 = .ok (.iaload, 1) := by decide +kernel
theorem dX4_begins_43 : decode cX4_begins 43 = .ok (.ireturn, 1) := by decide +kernel
set_option maxRecDepth 20000 in
theorem ggX4_next_X4_isHalf : GoodIn wsX4_next wsX4_isHalf := goodIn_r _ [6, 7, 74, 75, 76, 77, 78, 79, 80, 81, 82, 83, 84, 85, 86, 87, 88, 89] (by decide +kernel) (by decide +kernel)
set_option maxRecDepth 20000 in
theorem gX4_next_X4_isHalf : GoodIn wsX4_next (wsV RX4 131 RX4 yX4_isHalf wsX4_isHalf) := goodIn_app (goodIn_of _ (by decide +kernel)) ggX4_next_X4_isHalf
set_option maxRecDepth 20000 in
theorem ggX4_next_X4_refused : GoodIn wsX4_next wsX4_refused := goodIn_r _ [11, 12, 74, 75, 76, 77, 78, 79, 80, 81, 82, 83, 84, 85, 86, 87, 88, 89] (by decide +kernel) (by decide +kernel)
set_option maxRecDepth 20000 in
theorem gX4_next_X4_refused : GoodIn wsX4_next (wsV RX4 69 RX4 yX4_refused wsX4_refused) := goodIn_app (goodIn_of _ (by decide +kernel)) ggX4_next_X4_refused
set_option maxRecDepth 20000 in
theorem ggX4_next_X4_make : GoodIn wsX4_next wsX4_make := goodIn_r _ [16, 17, 18, 19, 20, 21, 7, 1, 22, 23, 24, 5, 25, 26, 27, 28, 29, 30, 31, 32, 33, 34, 35, 36, 37, 38, 39, 40, 41, 42, 43, 44, 45, 46, 47, 48, 49, 50, 51, 52, 53, 54, 55, 56, 57, 58, 59, 60, 61, 62, 63, 64, 65, 66, 67, 68, 69, 70, 71, 72, 73, 74, 75, 76, 77, 78, 79, 80, 81, 82, 83, 84, 85, 86, 87, 88, 89] (by decide +kernel) (by decide +kernel)
set_option maxRecDepth 20000 in
theorem gX4_next_X4_make : GoodIn wsX4_next (wsV RX4 125 RX4 yX4_make wsX4_make) := goodIn_app (goodIn_of _ (by decide +kernel)) ggX4_next_X4_make
theorem dX4_next_0 : decode cX4_next 0 = .ok (.aload_n 0, 1) := by decide +kernel
theorem dX4_next_1 : decode cX4_next 1 = .ok (.aload_n 0, 1) := by decide +kernel
theorem dX4_next_2 : decode cX4_next 2 = .ok (.iload_n 1, 1) := by decide +kernel
theorem dX4_next_3 : decode cX4_next 3 = .ok (.invokevirtual 131, 3) := by decide +kernel
theorem dX4_next_6 : decode cX4_next 6 = .ok (.ifCond .eq 7, 3) := by decide +kernel
theorem dX4_next_9 : decode cX4_next 9 = .ok (.iconst 0, 1) := by decide +kernel
theorem dX4_next_10 : decode cX4_next 10 = .ok (.goto 4, 3) := by decide +kernel
theorem dX4_next_13 : decode cX4_next 13 = .ok (.iconst 1, 1) := by decide +kernel
theorem dX4_next_14 : decode cX4_next 14 = .ok (.invokevirtual 69, 3) := by decide +kernel
theorem dX4_next_17 : decode cX4_next 17 = .ok (.ifCond .eq 5, 3) := by decide +kernel
theorem dX4_next_20 : decode cX4_next 20 = .ok (.iconst 0, 1) := by decide +kernel
theorem dX4_next_21 : decode cX4_next 21 = .ok (.ireturn, 1) := by decide +kernel
theorem dX4_next_22 : decode cX4_next 22 = .ok (.aload_n 0, 1) := by decide +kernel
theorem dX4_next_23 : decode cX4_next 23 = .ok (.invokevirtual 125, 3) := by decide +kernel
theorem dX4_next_26 : decode cX4_next 26 = .ok (.aload_n 0, 1) := by decide +kernel
theorem dX4_next_27 : decode cX4_next 27 = .ok (.getfield 20, 3) := by decide +kernel
theorem dX4_next_30 : decode cX4_next 30 = .ok (.iload_n 1, 1) := by decide +kernel
theorem dX4_next_31 : decode cX4_next 31 = .ok (.iaload, 1) := by decide +kernel
theorem dX4_next_32 : decode cX4_next 32 = .ok (.ireturn, 1) := by decide +kernel
set_option maxRecDepth 20000 in
theorem ggX4_face_X4_isHalf : GoodIn wsX4_face wsX4_isHalf := goodIn_r _ [5, 6, 78, 79, 80, 81, 82, 83, 84, 85, 86, 87, 88, 89, 90, 91, 92, 93] (by decide +kernel) (by decide +kernel)
set_option maxRecDepth 20000 in
theorem gX4_face_X4_isHalf : GoodIn wsX4_face (wsV RX4 131 RX4 yX4_isHalf wsX4_isHalf) := goodIn_app (goodIn_of _ (by decide +kernel)) ggX4_face_X4_isHalf
set_option maxRecDepth 20000 in
theorem ggX4_face_X4_refused : GoodIn wsX4_face wsX4_refused := goodIn_r _ [10, 11, 78, 79, 80, 81, 82, 83, 84, 85, 86, 87, 88, 89, 90, 91, 92, 93] (by decide +kernel) (by decide +kernel)
set_option maxRecDepth 20000 in
theorem gX4_face_X4_refused : GoodIn wsX4_face (wsV RX4 69 RX4 yX4_refused wsX4_refused) := goodIn_app (goodIn_of _ (by decide +kernel)) ggX4_face_X4_refused
set_option maxRecDepth 20000 in
theorem ggX4_face_X4_make : GoodIn wsX4_face wsX4_make := goodIn_r _ [15, 16, 17, 18, 19, 20, 6, 21, 22, 23, 24, 4, 25, 26, 27, 28, 29, 30, 31, 32, 33, 34, 35, 36, 37, 38, 39, 40, 41, 42, 43, 44, 45, 46, 47, 48, 49, 50, 51, 52, 53, 54, 55, 56, 57, 58, 59, 60, 61, 62, 63, 64, 65, 66, 67, 68, 69, 70, 71, 72, 73, 78, 79, 80, 81, 82, 83, 84, 85, 86, 87, 88, 89, 90, 91, 92, 93] (by decide +kernel) (by decide +kernel)
set_option maxRecDepth 20000 in
theorem gX4_face_X4_make : GoodIn wsX4_face (wsV RX4 125 RX4 yX4_make wsX4_make) := goodIn_app (goodIn_of _ (by decide +kernel)) ggX4_face_X4_make
set_option maxRecDepth 20000 in
theorem ggX4_face_X4_left : GoodIn wsX4_face wsX4_left := goodIn_r _ [77, 59, 20, 78, 79, 80, 81, 82, 83, 84, 85, 86, 87, 88, 89, 90, 91, 92, 93] (by decide +kernel) (by decide +kernel)
set_option maxRecDepth 20000 in
theorem gX4_face_X4_left : GoodIn wsX4_face (wsV RX4 128 RX4 yX4_left wsX4_left) := goodIn_app (goodIn_of _ (by decide +kernel)) ggX4_face_X4_left
theorem dX4_face_0 : decode cX4_face 0 = .ok (.aload_n 0, 1) := by decide +kernel
theorem dX4_face_1 : decode cX4_face 1 = .ok (.aload_n 0, 1) := by decide +kernel
theorem dX4_face_2 : decode cX4_face 2 = .ok (.iload_n 1, 1) := by decide +kernel
theorem dX4_face_3 : decode cX4_face 3 = .ok (.invokevirtual 131, 3) := by decide +kernel
theorem dX4_face_6 : decode cX4_face 6 = .ok (.ifCond .eq 7, 3) := by decide +kernel
theorem dX4_face_9 : decode cX4_face 9 = .ok (.iconst 0, 1) := by decide +kernel
theorem dX4_face_10 : decode cX4_face 10 = .ok (.goto 4, 3) := by decide +kernel
theorem dX4_face_13 : decode cX4_face 13 = .ok (.iconst 1, 1) := by decide +kernel
theorem dX4_face_14 : decode cX4_face 14 = .ok (.invokevirtual 69, 3) := by decide +kernel
theorem dX4_face_17 : decode cX4_face 17 = .ok (.ifCond .eq 5, 3) := by decide +kernel
theorem dX4_face_20 : decode cX4_face 20 = .ok (.iconst 0, 1) := by decide +kernel
theorem dX4_face_21 : decode cX4_face 21 = .ok (.ireturn, 1) := by decide +kernel
theorem dX4_face_22 : decode cX4_face 22 = .ok (.aload_n 0, 1) := by decide +kernel
theorem dX4_face_23 : decode cX4_face 23 = .ok (.invokevirtual 125, 3) := by decide +kernel
theorem dX4_face_26 : decode cX4_face 26 = .ok (.aload_n 0, 1) := by decide +kernel
theorem dX4_face_27 : decode cX4_face 27 = .ok (.iload_n 1, 1) := by decide +kernel
theorem dX4_face_28 : decode cX4_face 28 = .ok (.invokevirtual 128, 3) := by decide +kernel
theorem dX4_face_31 : decode cX4_face 31 = .ok (.ireturn, 1) := by decide +kernel
set_option maxRecDepth 20000 in
theorem ggX4_piece_X4_isHalf : GoodIn wsX4_piece wsX4_isHalf := goodIn_r _ [6, 7, 74, 75, 76, 77, 78, 79, 80, 81, 82, 83, 84, 85, 86, 87, 88, 89] (by decide +kernel) (by decide +kernel)
set_option maxRecDepth 20000 in
theorem gX4_piece_X4_isHalf : GoodIn wsX4_piece (wsV RX4 131 RX4 yX4_isHalf wsX4_isHalf) := goodIn_app (goodIn_of _ (by decide +kernel)) ggX4_piece_X4_isHalf
set_option maxRecDepth 20000 in
theorem ggX4_piece_X4_refused : GoodIn wsX4_piece wsX4_refused := goodIn_r _ [11, 12, 74, 75, 76, 77, 78, 79, 80, 81, 82, 83, 84, 85, 86, 87, 88, 89] (by decide +kernel) (by decide +kernel)
set_option maxRecDepth 20000 in
theorem gX4_piece_X4_refused : GoodIn wsX4_piece (wsV RX4 69 RX4 yX4_refused wsX4_refused) := goodIn_app (goodIn_of _ (by decide +kernel)) ggX4_piece_X4_refused
set_option maxRecDepth 20000 in
theorem ggX4_piece_X4_make : GoodIn wsX4_piece wsX4_make := goodIn_r _ [16, 17, 18, 19, 1, 20, 7, 21, 22, 23, 24, 5, 25, 26, 27, 28, 29, 30, 31, 32, 33, 34, 35, 36, 37, 38, 39, 40, 41, 42, 43, 44, 45, 46, 47, 48, 49, 50, 51, 52, 53, 54, 55, 56, 57, 58, 59, 60, 61, 62, 63, 64, 65, 66, 67, 68, 69, 70, 71, 72, 73, 74, 75, 76, 77, 78, 79, 80, 81, 82, 83, 84, 85, 86, 87, 88, 89] (by decide +kernel) (by decide +kernel)
set_option maxRecDepth 20000 in
theorem gX4_piece_X4_make : GoodIn wsX4_piece (wsV RX4 125 RX4 yX4_make wsX4_make) := goodIn_app (goodIn_of _ (by decide +kernel)) ggX4_piece_X4_make
theorem dX4_piece_0 : decode cX4_piece 0 = .ok (.aload_n 0, 1) := by decide +kernel
theorem dX4_piece_1 : decode cX4_piece 1 = .ok (.aload_n 0, 1) := by decide +kernel
theorem dX4_piece_2 : decode cX4_piece 2 = .ok (.iload_n 1, 1) := by decide +kernel
theorem dX4_piece_3 : decode cX4_piece 3 = .ok (.invokevirtual 131, 3) := by decide +kernel
theorem dX4_piece_6 : decode cX4_piece 6 = .ok (.ifCond .eq 7, 3) := by decide +kernel
theorem dX4_piece_9 : decode cX4_piece 9 = .ok (.iconst 0, 1) := by decide +kernel
theorem dX4_piece_10 : decode cX4_piece 10 = .ok (.goto 4, 3) := by decide +kernel
theorem dX4_piece_13 : decode cX4_piece 13 = .ok (.iconst 1, 1) := by decide +kernel
theorem dX4_piece_14 : decode cX4_piece 14 = .ok (.invokevirtual 69, 3) := by decide +kernel
theorem dX4_piece_17 : decode cX4_piece 17 = .ok (.ifCond .eq 5, 3) := by decide +kernel
theorem dX4_piece_20 : decode cX4_piece 20 = .ok (.iconst 0, 1) := by decide +kernel
theorem dX4_piece_21 : decode cX4_piece 21 = .ok (.ireturn, 1) := by decide +kernel
theorem dX4_piece_22 : decode cX4_piece 22 = .ok (.aload_n 0, 1) := by decide +kernel
theorem dX4_piece_23 : decode cX4_piece 23 = .ok (.invokevirtual 125, 3) := by decide +kernel
theorem dX4_piece_26 : decode cX4_piece 26 = .ok (.aload_n 0, 1) := by decide +kernel
theorem dX4_piece_27 : decode cX4_piece 27 = .ok (.getfield 23, 3) := by decide +kernel
theorem dX4_piece_30 : decode cX4_piece 30 = .ok (.iload_n 1, 1) := by decide +kernel
theorem dX4_piece_31 : decode cX4_piece 31 = .ok (.iaload, 1) := by decide +kernel
theorem dX4_piece_32 : decode cX4_piece 32 = .ok (.ireturn, 1) := by decide +kernel
theorem dX4_outer_0 : decode cX4_outer 0 = .ok (.iconst (-1), 1) := by decide +kernel
theorem dX4_outer_1 : decode cX4_outer 1 = .ok (.istore_n 2, 1) := by decide +kernel
theorem dX4_outer_2 : decode cX4_outer 2 = .ok (.iconst 0, 1) := by decide +kernel
theorem dX4_outer_3 : decode cX4_outer 3 = .ok (.istore_n 3, 1) := by decide +kernel
theorem dX4_outer_4 : decode cX4_outer 4 = .ok (.iload_n 3, 1) := by decide +kernel
theorem dX4_outer_5 : decode cX4_outer 5 = .ok (.aload_n 0, 1) := by decide +kernel
theorem dX4_outer_6 : decode cX4_outer 6 = .ok (.getfield 95, 3) := by decide +kernel
theorem dX4_outer_9 : decode cX4_outer 9 = .ok (.if_icmp .ge 41, 3) := by decide +kernel
theorem dX4_outer_12 : decode cX4_outer 12 = .ok (.aload_n 0, 1) := by decide +kernel
theorem dX4_outer_13 : decode cX4_outer 13 = .ok (.getfield 23, 3) := by decide +kernel
theorem dX4_outer_16 : decode cX4_outer 16 = .ok (.aload_n 0, 1) := by decide +kernel
theorem dX4_outer_17 : decode cX4_outer 17 = .ok (.getfield 29, 3) := by decide +kernel
theorem dX4_outer_20 : decode cX4_outer 20 = .ok (.iload_n 3, 1) := by decide +kernel
theorem dX4_outer_21 : decode cX4_outer 21 = .ok (.iaload, 1) := by decide +kernel
theorem dX4_outer_22 : decode cX4_outer 22 = .ok (.iaload, 1) := by decide +kernel
theorem dX4_outer_23 : decode cX4_outer 23 = .ok (.iload_n 1, 1) := by decide +kernel
theorem dX4_outer_24 : decode cX4_outer 24 = .ok (.if_icmp .ne 18, 3) := by decide +kernel
theorem dX4_outer_27 : decode cX4_outer 27 = .ok (.aload_n 0, 1) := by decide +kernel
theorem dX4_outer_28 : decode cX4_outer 28 = .ok (.getfield 32, 3) := by decide +kernel
theorem dX4_outer_31 : decode cX4_outer 31 = .ok (.iload_n 3, 1) := by decide +kernel
theorem dX4_outer_32 : decode cX4_outer 32 = .ok (.laload, 1) := by decide +kernel
theorem dX4_outer_33 : decode cX4_outer 33 = .ok (.lconst 0, 1) := by decide +kernel
theorem dX4_outer_34 : decode cX4_outer 34 = .ok (.lcmp, 1) := by decide +kernel
theorem dX4_outer_35 : decode cX4_outer 35 = .ok (.ifCond .gt 7, 3) := by decide +kernel
theorem dX4_outer_38 : decode cX4_outer 38 = .ok (.iload_n 3, 1) := by decide +kernel
theorem dX4_outer_39 : decode cX4_outer 39 = .ok (.goto 4, 3) := by decide +kernel
theorem dX4_outer_42 : decode cX4_outer 42 = .ok (.iload_n 2, 1) := by decide +kernel
theorem dX4_outer_43 : decode cX4_outer 43 = .ok (.istore_n 2, 1) := by decide +kernel
theorem dX4_outer_44 : decode cX4_outer 44 = .ok (.iinc 3 1, 3) := by decide +kernel
theorem dX4_outer_47 : decode cX4_outer 47 = .ok (.goto (-43), 3) := by decide +kernel
theorem dX4_outer_50 : decode cX4_outer 50 = .ok (.iload_n 2, 1) := by decide +kernel
theorem dX4_outer_51 : decode cX4_outer 51 = .ok (.ireturn, 1) := by decide +kernel
set_option maxRecDepth 20000 in
theorem ggX4_around_X4_make : GoodIn wsX4_around wsX4_make := goodIn_r _ [7, 8, 1, 9, 10, 11, 12, 13, 14, 15, 16, 6, 17, 18, 19, 20, 21, 22, 23, 24, 25, 26, 27, 28, 29, 30, 31, 32, 33, 34, 35, 36, 37, 38, 39, 40, 41, 42, 43, 44, 45, 46, 47, 48, 49, 50, 2, 51, 52, 53, 54, 55, 56, 57, 58, 59, 60, 61, 62, 63, 64, 74, 75, 76, 77, 78, 79, 80, 81, 82, 83, 84, 85, 86, 87, 88, 89] (by decide +kernel) (by decide +kernel)
set_option maxRecDepth 20000 in
theorem gX4_around_X4_make : GoodIn wsX4_around (wsV RX4 125 RX4 yX4_make wsX4_make) := goodIn_app (goodIn_of _ (by decide +kernel)) ggX4_around_X4_make
set_option maxRecDepth 20000 in
theorem ggX4_around_X4_refused : GoodIn wsX4_around wsX4_refused := goodIn_r _ [68, 69, 74, 75, 76, 77, 78, 79, 80, 81, 82, 83, 84, 85, 86, 87, 88, 89] (by decide +kernel) (by decide +kernel)
set_option maxRecDepth 20000 in
theorem gX4_around_X4_refused : GoodIn wsX4_around (wsV RX4 69 RX4 yX4_refused wsX4_refused) := goodIn_app (goodIn_of _ (by decide +kernel)) ggX4_around_X4_refused
set_option maxRecDepth 20000 in
theorem ggX4_around_X4_outer : GoodIn wsX4_around wsX4_outer := goodIn_r _ [73, 9, 10, 43, 44, 74, 75, 76, 77, 78, 79, 80, 81, 82, 83, 84, 85, 86, 87, 88, 89] (by decide +kernel) (by decide +kernel)
set_option maxRecDepth 20000 in
theorem gX4_around_X4_outer : GoodIn wsX4_around (wsV RX4 134 RX4 yX4_outer wsX4_outer) := goodIn_app (goodIn_of _ (by decide +kernel)) ggX4_around_X4_outer
theorem dX4_around_0 : decode cX4_around 0 = .ok (.aload_n 0, 1) := by decide +kernel
theorem dX4_around_1 : decode cX4_around 1 = .ok (.invokevirtual 125, 3) := by decide +kernel
theorem dX4_around_4 : decode cX4_around 4 = .ok (.aload_n 0, 1) := by decide +kernel
theorem dX4_around_5 : decode cX4_around 5 = .ok (.iload_n 1, 1) := by decide +kernel
theorem dX4_around_6 : decode cX4_around 6 = .ok (.ifCond .lt 15, 3) := by decide +kernel
theorem dX4_around_9 : decode cX4_around 9 = .ok (.iload_n 1, 1) := by decide +kernel
theorem dX4_around_10 : decode cX4_around 10 = .ok (.aload_n 0, 1) := by decide +kernel
theorem dX4_around_11 : decode cX4_around 11 = .ok (.getfield 101, 3) := by decide +kernel
theorem dX4_around_14 : decode cX4_around 14 = .ok (.if_icmp .ge 7, 3) := by decide +kernel
theorem dX4_around_17 : decode cX4_around 17 = .ok (.iconst 0, 1) := by decide +kernel
theorem dX4_around_18 : decode cX4_around 18 = .ok (.goto 4, 3) := by decide +kernel
theorem dX4_around_21 : decode cX4_around 21 = .ok (.iconst 1, 1) := by decide +kernel
theorem dX4_around_22 : decode cX4_around 22 = .ok (.invokevirtual 69, 3) := by decide +kernel
theorem dX4_around_25 : decode cX4_around 25 = .ok (.ifCond .eq 7, 3) := by decide +kernel
theorem dX4_around_28 : decode cX4_around 28 = .ok (.iconst 0, 1) := by decide +kernel
theorem dX4_around_29 : decode cX4_around 29 = .ok (.goto 13, 3) := by decide +kernel
theorem dX4_around_32 : decode cX4_around 32 = .ok (.aload_n 0, 1) := by decide +kernel
theorem dX4_around_33 : decode cX4_around 33 = .ok (.getfield 36, 3) := by decide +kernel
theorem dX4_around_36 : decode cX4_around 36 = .ok (.aload_n 0, 1) := by decide +kernel
theorem dX4_around_37 : decode cX4_around 37 = .ok (.iload_n 1, 1) := by decide +kernel
theorem dX4_around_38 : decode cX4_around 38 = .ok (.invokevirtual 134, 3) := by decide +kernel
theorem dX4_around_41 : decode cX4_around 41 = .ok (.iaload, 1) := by decide +kernel
theorem dX4_around_42 : decode cX4_around 42 = .ok (.ireturn, 1) := by decide +kernel
set_option maxRecDepth 20000 in
theorem ggX4_isFace_X4_make : GoodIn wsX4_isFace wsX4_make := goodIn_r _ [6, 7, 8, 9, 10, 11, 12, 13, 14, 15, 16, 5, 17, 18, 19, 20, 21, 22, 23, 24, 25, 26, 27, 28, 29, 30, 31, 32, 33, 34, 35, 36, 37, 38, 39, 40, 41, 42, 43, 44, 45, 46, 47, 48, 1, 49, 50, 51, 52, 53, 54, 55, 56, 57, 58, 59, 60, 61, 62, 63, 64, 65, 66, 67, 68, 69, 70, 71, 72, 73, 74, 75, 76, 77, 78, 79, 80] (by decide +kernel) (by decide +kernel)
set_option maxRecDepth 20000 in
theorem gX4_isFace_X4_make : GoodIn wsX4_isFace (wsV RX4 125 RX4 yX4_make wsX4_make) := goodIn_app (goodIn_of _ (by decide +kernel)) ggX4_isFace_X4_make
theorem dX4_isFace_0 : decode cX4_isFace 0 = .ok (.aload_n 0, 1) := by decide +kernel
theorem dX4_isFace_1 : decode cX4_isFace 1 = .ok (.invokevirtual 125, 3) := by decide +kernel
theorem dX4_isFace_4 : decode cX4_isFace 4 = .ok (.iload_n 1, 1) := by decide +kernel
theorem dX4_isFace_5 : decode cX4_isFace 5 = .ok (.ifCond .lt 15, 3) := by decide +kernel
theorem dX4_isFace_8 : decode cX4_isFace 8 = .ok (.iload_n 1, 1) := by decide +kernel
theorem dX4_isFace_9 : decode cX4_isFace 9 = .ok (.aload_n 0, 1) := by decide +kernel
theorem dX4_isFace_10 : decode cX4_isFace 10 = .ok (.getfield 118, 3) := by decide +kernel
theorem dX4_isFace_13 : decode cX4_isFace 13 = .ok (.if_icmp .ge 7, 3) := by decide +kernel
theorem dX4_isFace_16 : decode cX4_isFace 16 = .ok (.iconst 1, 1) := by decide +kernel
theorem dX4_isFace_17 : decode cX4_isFace 17 = .ok (.goto 4, 3) := by decide +kernel
theorem dX4_isFace_20 : decode cX4_isFace 20 = .ok (.iconst 0, 1) := by decide +kernel
theorem dX4_isFace_21 : decode cX4_isFace 21 = .ok (.ireturn, 1) := by decide +kernel
set_option maxRecDepth 20000 in
theorem ggX4_area_X4_isFace : GoodIn wsX4_area wsX4_isFace := goodIn_r _ [8, 9, 10, 11, 12, 7, 13, 14, 15, 1, 16, 17, 18, 19, 20, 21, 22, 23, 24, 25, 26, 27, 28, 29, 30, 31, 32, 33, 34, 35, 36, 37, 38, 39, 40, 41, 42, 43, 44, 45, 46, 47, 48, 49, 3, 50, 51, 52, 53, 54, 2, 55, 56, 57, 58, 59, 60, 61, 62, 63, 64, 65, 66, 67, 68, 74, 75, 76, 77, 78, 79, 80, 81, 82, 83, 84, 85, 86, 87, 88, 89] (by decide +kernel) (by decide +kernel)
set_option maxRecDepth 20000 in
theorem gX4_area_X4_isFace : GoodIn wsX4_area (wsV RX4 137 RX4 yX4_isFace wsX4_isFace) := goodIn_app (goodIn_of _ (by decide +kernel)) ggX4_area_X4_isFace
set_option maxRecDepth 20000 in
theorem ggX4_area_X4_refused : GoodIn wsX4_area wsX4_refused := goodIn_r _ [72, 73, 74, 75, 76, 77, 78, 79, 80, 81, 82, 83, 84, 85, 86, 87, 88, 89] (by decide +kernel) (by decide +kernel)
set_option maxRecDepth 20000 in
theorem gX4_area_X4_refused : GoodIn wsX4_area (wsV RX4 69 RX4 yX4_refused wsX4_refused) := goodIn_app (goodIn_of _ (by decide +kernel)) ggX4_area_X4_refused
theorem dX4_area_0 : decode cX4_area 0 = .ok (.aload_n 0, 1) := by decide +kernel
theorem dX4_area_1 : decode cX4_area 1 = .ok (.aload_n 0, 1) := by decide +kernel
theorem dX4_area_2 : decode cX4_area 2 = .ok (.iload_n 1, 1) := by decide +kernel
theorem dX4_area_3 : decode cX4_area 3 = .ok (.invokevirtual 137, 3) := by decide +kernel
theorem dX4_area_6 : decode cX4_area 6 = .ok (.ifCond .eq 7, 3) := by decide +kernel
theorem dX4_area_9 : decode cX4_area 9 = .ok (.iconst 0, 1) := by decide +kernel
theorem dX4_area_10 : decode cX4_area 10 = .ok (.goto 4, 3) := by decide +kernel
theorem dX4_area_13 : decode cX4_area 13 = .ok (.iconst 1, 1) := by decide +kernel
theorem dX4_area_14 : decode cX4_area 14 = .ok (.invokevirtual 69, 3) := by decide +kernel
theorem dX4_area_17 : decode cX4_area 17 = .ok (.ifCond .eq 5, 3) := by decide +kernel
theorem dX4_area_20 : decode cX4_area 20 = .ok (.iconst 0, 1) := by decide +kernel
theorem dX4_area_21 : decode cX4_area 21 = .ok (.ireturn, 1) := by decide +kernel
theorem dX4_area_22 : decode cX4_area 22 = .ok (.lconst 0, 1) := by decide +kernel
theorem dX4_area_23 : decode cX4_area 23 = .ok (.lstore_n 2, 1) := by decide +kernel
theorem dX4_area_24 : decode cX4_area 24 = .ok (.iconst 0, 1) := by decide +kernel
theorem dX4_area_25 : decode cX4_area 25 = .ok (.istore 4, 2) := by decide +kernel
theorem dX4_area_27 : decode cX4_area 27 = .ok (.iload 4, 2) := by decide +kernel
theorem dX4_area_29 : decode cX4_area 29 = .ok (.aload_n 0, 1) := by decide +kernel
theorem dX4_area_30 : decode cX4_area 30 = .ok (.getfield 95, 3) := by decide +kernel
theorem dX4_area_33 : decode cX4_area 33 = .ok (.if_icmp .ge 38, 3) := by decide +kernel
theorem dX4_area_36 : decode cX4_area 36 = .ok (.iload_n 1, 1) := by decide +kernel
theorem dX4_area_37 : decode cX4_area 37 = .ok (.ifCond .le 34, 3) := by decide +kernel
theorem dX4_area_40 : decode cX4_area 40 = .ok (.aload_n 0, 1) := by decide +kernel
theorem dX4_area_41 : decode cX4_area 41 = .ok (.getfield 36, 3) := by decide +kernel
theorem dX4_area_44 : decode cX4_area 44 = .ok (.iload 4, 2) := by decide +kernel
theorem dX4_area_46 : decode cX4_area 46 = .ok (.iaload, 1) := by decide +kernel
theorem dX4_area_47 : decode cX4_area 47 = .ok (.iload_n 1, 1) := by decide +kernel
theorem dX4_area_48 : decode cX4_area 48 = .ok (.if_icmp .ne 15, 3) := by decide +kernel
theorem dX4_area_51 : decode cX4_area 51 = .ok (.lload_n 2, 1) := by decide +kernel
theorem dX4_area_52 : decode cX4_area 52 = .ok (.aload_n 0, 1) := by decide +kernel
theorem dX4_area_53 : decode cX4_area 53 = .ok (.getfield 32, 3) := by decide +kernel
theorem dX4_area_56 : decode cX4_area 56 = .ok (.iload 4, 2) := by decide +kernel
theorem dX4_area_58 : decode cX4_area 58 = .ok (.laload, 1) := by decide +kernel
theorem dX4_area_59 : decode cX4_area 59 = .ok (.ladd, 1) := by decide +kernel
theorem dX4_area_60 : decode cX4_area 60 = .ok (.goto 4, 3) := by decide +kernel
theorem dX4_area_63 : decode cX4_area 63 = .ok (.lload_n 2, 1) := by decide +kernel
theorem dX4_area_64 : decode cX4_area 64 = .ok (.lstore_n 2, 1) := by decide +kernel
theorem dX4_area_65 : decode cX4_area 65 = .ok (.iinc 4 1, 3) := by decide +kernel
theorem dX4_area_68 : decode cX4_area 68 = .ok (.goto (-41), 3) := by decide +kernel
theorem dX4_area_71 : decode cX4_area 71 = .ok (.lload_n 2, 1) := by decide +kernel
theorem dX4_area_72 : decode cX4_area 72 = .ok (.l2i, 1) := by decide +kernel
theorem dX4_area_73 : decode cX4_area 73 = .ok (.ireturn, 1) := by decide +kernel
set_option maxRecDepth 20000 in
theorem ggX4_border_X4_isFace : GoodIn wsX4_border wsX4_isFace := goodIn_r _ [9, 10, 11, 12, 13, 8, 14, 15, 16, 1, 17, 18, 4, 19, 20, 21, 22, 23, 24, 25, 26, 27, 28, 29, 30, 31, 32, 33, 34, 35, 36, 37, 38, 39, 40, 41, 42, 43, 44, 45, 46, 47, 48, 49, 3, 50, 51, 52, 53, 54, 2, 55, 56, 57, 58, 59, 60, 61, 62, 63, 64, 65, 66, 67, 68, 78, 79, 80, 81, 82, 83, 84, 85, 86, 87, 88, 89, 90, 91, 92, 93] (by decide +kernel) (by decide +kernel)
set_option maxRecDepth 20000 in
theorem gX4_border_X4_isFace : GoodIn wsX4_border (wsV RX4 137 RX4 yX4_isFace wsX4_isFace) := goodIn_app (goodIn_of _ (by decide +kernel)) ggX4_border_X4_isFace
set_option maxRecDepth 20000 in
theorem ggX4_border_X4_refused : GoodIn wsX4_border wsX4_refused := goodIn_r _ [72, 73, 78, 79, 80, 81, 82, 83, 84, 85, 86, 87, 88, 89, 90, 91, 92, 93] (by decide +kernel) (by decide +kernel)
set_option maxRecDepth 20000 in
theorem gX4_border_X4_refused : GoodIn wsX4_border (wsV RX4 69 RX4 yX4_refused wsX4_refused) := goodIn_app (goodIn_of _ (by decide +kernel)) ggX4_border_X4_refused
set_option maxRecDepth 20000 in
theorem ggX4_border_X4_left : GoodIn wsX4_border wsX4_left := goodIn_r _ [77, 2, 18, 78, 79, 80, 81, 82, 83, 84, 85, 86, 87, 88, 89, 90, 91, 92, 93] (by decide +kernel) (by decide +kernel)
set_option maxRecDepth 20000 in
theorem gX4_border_X4_left : GoodIn wsX4_border (wsV RX4 128 RX4 yX4_left wsX4_left) := goodIn_app (goodIn_of _ (by decide +kernel)) ggX4_border_X4_left
theorem dX4_border_0 : decode cX4_border 0 = .ok (.aload_n 0, 1) := by decide +kernel
theorem dX4_border_1 : decode cX4_border 1 = .ok (.aload_n 0, 1) := by decide +kernel
theorem dX4_border_2 : decode cX4_border 2 = .ok (.iload_n 1, 1) := by decide +kernel
theorem dX4_border_3 : decode cX4_border 3 = .ok (.invokevirtual 137, 3) := by decide +kernel
theorem dX4_border_6 : decode cX4_border 6 = .ok (.ifCond .eq 7, 3) := by decide +kernel
theorem dX4_border_9 : decode cX4_border 9 = .ok (.iconst 0, 1) := by decide +kernel
theorem dX4_border_10 : decode cX4_border 10 = .ok (.goto 4, 3) := by decide +kernel
theorem dX4_border_13 : decode cX4_border 13 = .ok (.iconst 1, 1) := by decide +kernel
theorem dX4_border_14 : decode cX4_border 14 = .ok (.invokevirtual 69, 3) := by decide +kernel
theorem dX4_border_17 : decode cX4_border 17 = .ok (.ifCond .eq 5, 3) := by decide +kernel
theorem dX4_border_20 : decode cX4_border 20 = .ok (.iconst 0, 1) := by decide +kernel
theorem dX4_border_21 : decode cX4_border 21 = .ok (.ireturn, 1) := by decide +kernel
theorem dX4_border_22 : decode cX4_border 22 = .ok (.iconst 0, 1) := by decide +kernel
theorem dX4_border_23 : decode cX4_border 23 = .ok (.istore_n 3, 1) := by decide +kernel
theorem dX4_border_24 : decode cX4_border 24 = .ok (.iconst (-1), 1) := by decide +kernel
theorem dX4_border_25 : decode cX4_border 25 = .ok (.istore 4, 2) := by decide +kernel
theorem dX4_border_27 : decode cX4_border 27 = .ok (.iconst 0, 1) := by decide +kernel
theorem dX4_border_28 : decode cX4_border 28 = .ok (.istore 5, 2) := by decide +kernel
theorem dX4_border_30 : decode cX4_border 30 = .ok (.iload 5, 2) := by decide +kernel
theorem dX4_border_32 : decode cX4_border 32 = .ok (.aload_n 0, 1) := by decide +kernel
theorem dX4_border_33 : decode cX4_border 33 = .ok (.getfield 95, 3) := by decide +kernel
theorem dX4_border_36 : decode cX4_border 36 = .ok (.if_icmp .ge 49, 3) := by decide +kernel
theorem dX4_border_39 : decode cX4_border 39 = .ok (.aload_n 0, 1) := by decide +kernel
theorem dX4_border_40 : decode cX4_border 40 = .ok (.getfield 36, 3) := by decide +kernel
theorem dX4_border_43 : decode cX4_border 43 = .ok (.iload 5, 2) := by decide +kernel
theorem dX4_border_45 : decode cX4_border 45 = .ok (.iaload, 1) := by decide +kernel
theorem dX4_border_46 : decode cX4_border 46 = .ok (.iload_n 1, 1) := by decide +kernel
theorem dX4_border_47 : decode cX4_border 47 = .ok (.if_icmp .ne 30, 3) := by decide +kernel
theorem dX4_border_50 : decode cX4_border 50 = .ok (.iload_n 2, 1) := by decide +kernel
theorem dX4_border_51 : decode cX4_border 51 = .ok (.ifCond .eq 20, 3) := by decide +kernel
theorem dX4_border_54 : decode cX4_border 54 = .ok (.iload_n 2, 1) := by decide +kernel
theorem dX4_border_55 : decode cX4_border 55 = .ok (.iconst 3, 1) := by decide +kernel
theorem dX4_border_56 : decode cX4_border 56 = .ok (.if_icmp .ne 21, 3) := by decide +kernel
theorem dX4_border_59 : decode cX4_border 59 = .ok (.aload_n 0, 1) := by decide +kernel
theorem dX4_border_60 : decode cX4_border 60 = .ok (.getfield 32, 3) := by decide +kernel
theorem dX4_border_63 : decode cX4_border 63 = .ok (.iload 5, 2) := by decide +kernel
theorem dX4_border_65 : decode cX4_border 65 = .ok (.laload, 1) := by decide +kernel
theorem dX4_border_66 : decode cX4_border 66 = .ok (.lconst 0, 1) := by decide +kernel
theorem dX4_border_67 : decode cX4_border 67 = .ok (.lcmp, 1) := by decide +kernel
theorem dX4_border_68 : decode cX4_border 68 = .ok (.ifCond .gt 9, 3) := by decide +kernel
theorem dX4_border_71 : decode cX4_border 71 = .ok (.iload_n 3, 1) := by decide +kernel
theorem dX4_border_72 : decode cX4_border 72 = .ok (.iconst 1, 1) := by decide +kernel
theorem dX4_border_73 : decode cX4_border 73 = .ok (.iadd, 1) := by decide +kernel
theorem dX4_border_74 : decode cX4_border 74 = .ok (.goto 4, 3) := by decide +kernel
theorem dX4_border_77 : decode cX4_border 77 = .ok (.iload_n 3, 1) := by decide +kernel
theorem dX4_border_78 : decode cX4_border 78 = .ok (.istore_n 3, 1) := by decide +kernel
theorem dX4_border_79 : decode cX4_border 79 = .ok (.iinc 5 1, 3) := by decide +kernel
theorem dX4_border_82 : decode cX4_border 82 = .ok (.goto (-52), 3) := by decide +kernel
theorem dX4_border_85 : decode cX4_border 85 = .ok (.bipush 119, 2) := by decide +kernel
theorem dX4_border_87 : decode cX4_border 87 = .ok (.istore 5, 2) := by decide +kernel
theorem dX4_border_89 : decode cX4_border 89 = .ok (.iload 5, 2) := by decide +kernel
theorem dX4_border_91 : decode cX4_border 91 = .ok (.ifCond .lt 48, 3) := by decide +kernel
theorem dX4_border_94 : decode cX4_border 94 = .ok (.aload_n 0, 1) := by decide +kernel
theorem dX4_border_95 : decode cX4_border 95 = .ok (.getfield 7, 3) := by decide +kernel
theorem dX4_border_98 : decode cX4_border 98 = .ok (.iload 5, 2) := by decide +kernel
theorem dX4_border_100 : decode cX4_border 100 = .ok (.iconst 2, 1) := by decide +kernel
theorem dX4_border_101 : decode cX4_border 101 = .ok (.idiv, 1) := by decide +kernel
theorem dX4_border_102 : decode cX4_border 102 = .ok (.baload, 1) := by decide +kernel
theorem dX4_border_103 : decode cX4_border 103 = .ok (.ifCond .eq 30, 3) := by decide +kernel
theorem dX4_border_106 : decode cX4_border 106 = .ok (.aload_n 0, 1) := by decide +kernel
theorem dX4_border_107 : decode cX4_border 107 = .ok (.iload 5, 2) := by decide +kernel
theorem dX4_border_109 : decode cX4_border 109 = .ok (.invokevirtual 128, 3) := by decide +kernel
theorem dX4_border_112 : decode cX4_border 112 = .ok (.iload_n 1, 1) := by decide +kernel
theorem dX4_border_113 : decode cX4_border 113 = .ok (.if_icmp .ne 20, 3) := by decide +kernel
theorem dX4_border_116 : decode cX4_border 116 = .ok (.iload_n 2, 1) := by decide +kernel
theorem dX4_border_117 : decode cX4_border 117 = .ok (.iconst 1, 1) := by decide +kernel
theorem dX4_border_118 : decode cX4_border 118 = .ok (.if_icmp .ne 9, 3) := by decide +kernel
theorem dX4_border_121 : decode cX4_border 121 = .ok (.iload_n 3, 1) := by decide +kernel
theorem dX4_border_122 : decode cX4_border 122 = .ok (.iconst 1, 1) := by decide +kernel
theorem dX4_border_123 : decode cX4_border 123 = .ok (.iadd, 1) := by decide +kernel
theorem dX4_border_124 : decode cX4_border 124 = .ok (.goto 4, 3) := by decide +kernel
theorem dX4_border_127 : decode cX4_border 127 = .ok (.iload_n 3, 1) := by decide +kernel
theorem dX4_border_128 : decode cX4_border 128 = .ok (.istore_n 3, 1) := by decide +kernel
theorem dX4_border_129 : decode cX4_border 129 = .ok (.iload 5, 2) := by decide +kernel
theorem dX4_border_131 : decode cX4_border 131 = .ok (.istore 4, 2) := by decide +kernel
theorem dX4_border_133 : decode cX4_border 133 = .ok (.iinc 5 (-1), 3) := by decide +kernel
theorem dX4_border_136 : decode cX4_border 136 = .ok (.goto (-47), 3) := by decide +kernel
theorem dX4_border_139 : decode cX4_border 139 = .ok (.iload_n 2, 1) := by decide +kernel
theorem dX4_border_140 : decode cX4_border 140 = .ok (.iconst 2, 1) := by decide +kernel
theorem dX4_border_141 : decode cX4_border 141 = .ok (.if_icmp .ne 8, 3) := by decide +kernel
theorem dX4_border_144 : decode cX4_border 144 = .ok (.iload 4, 2) := by decide +kernel
theorem dX4_border_146 : decode cX4_border 146 = .ok (.goto 22, 3) := by decide +kernel
theorem dX4_border_149 : decode cX4_border 149 = .ok (.iload_n 2, 1) := by decide +kernel
theorem dX4_border_150 : decode cX4_border 150 = .ok (.ifCond .eq 13, 3) := by decide +kernel
theorem dX4_border_153 : decode cX4_border 153 = .ok (.iload_n 2, 1) := by decide +kernel
theorem dX4_border_154 : decode cX4_border 154 = .ok (.iconst 1, 1) := by decide +kernel
theorem dX4_border_155 : decode cX4_border 155 = .ok (.if_icmp .eq 8, 3) := by decide +kernel
theorem dX4_border_158 : decode cX4_border 158 = .ok (.iload_n 2, 1) := by decide +kernel
theorem dX4_border_159 : decode cX4_border 159 = .ok (.iconst 3, 1) := by decide +kernel
theorem dX4_border_160 : decode cX4_border 160 = .ok (.if_icmp .ne 7, 3) := by decide +kernel
theorem dX4_border_163 : decode cX4_border 163 = .ok (.iload_n 3, 1) := by decide +kernel
theorem dX4_border_164 : decode cX4_border 164 = .ok (.goto 4, 3) := by decide +kernel
theorem dX4_border_167 : decode cX4_border 167 = .ok (.iconst (-1), 1) := by decide +kernel
theorem dX4_border_168 : decode cX4_border 168 = .ok (.ireturn, 1) := by decide +kernel
set_option maxRecDepth 20000 in
theorem ggX4_locate_X4_isIn : GoodIn wsX4_locate wsX4_isIn := goodIn_r _ [8] (by decide +kernel) (by decide +kernel)
set_option maxRecDepth 20000 in
theorem gX4_locate_X4_isIn : GoodIn wsX4_locate (va_wsS RX4 65 yX4_isIn wsX4_isIn) := goodIn_app (goodIn_of _ (by decide +kernel)) ggX4_locate_X4_isIn
set_option maxRecDepth 20000 in
theorem ggX4_locate_X4_refused : GoodIn wsX4_locate wsX4_refused := goodIn_r _ [12, 13, 76, 77, 78, 79, 80, 81, 82, 83, 84, 85, 86, 87, 88, 89, 90, 91] (by decide +kernel) (by decide +kernel)
set_option maxRecDepth 20000 in
theorem gX4_locate_X4_refused : GoodIn wsX4_locate (wsV RX4 69 RX4 yX4_refused wsX4_refused) := goodIn_app (goodIn_of _ (by decide +kernel)) ggX4_locate_X4_refused
set_option maxRecDepth 20000 in
theorem ggX4_locate_X4_make : GoodIn wsX4_locate wsX4_make := goodIn_r _ [17, 18, 19, 20, 21, 22, 1, 23, 24, 25, 26, 7, 27, 2, 3, 28, 29, 30, 31, 32, 33, 34, 35, 36, 37, 38, 39, 40, 41, 42, 43, 44, 45, 46, 47, 48, 49, 50, 51, 52, 53, 54, 55, 56, 57, 58, 4, 59, 60, 61, 62, 63, 64, 65, 66, 67, 68, 69, 70, 71, 72, 76, 77, 78, 79, 80, 81, 82, 83, 84, 85, 86, 87, 88, 89, 90, 91] (by decide +kernel) (by decide +kernel)
set_option maxRecDepth 20000 in
theorem gX4_locate_X4_make : GoodIn wsX4_locate (wsV RX4 125 RX4 yX4_make wsX4_make) := goodIn_app (goodIn_of _ (by decide +kernel)) ggX4_locate_X4_make
set_option maxRecDepth 20000 in
theorem ggX4_locate_X4_leaves : GoodIn wsX4_locate wsX4_leaves := goodIn_r _ [34, 1, 2, 3, 76, 77, 78, 79, 80, 81, 82, 83, 84, 85, 86, 87, 88, 89, 90, 91] (by decide +kernel) (by decide +kernel)
set_option maxRecDepth 20000 in
theorem gX4_locate_X4_leaves : GoodIn wsX4_locate (wsV RX4 88 RX4 yX4_leaves wsX4_leaves) := goodIn_app (goodIn_of _ (by decide +kernel)) ggX4_locate_X4_leaves
set_option maxRecDepth 20000 in
theorem ggX4_locate_X4_isOn : GoodIn wsX4_locate wsX4_isOn := goodIn_r _ [75, 67, 68, 7, 69, 70, 71, 72] (by decide +kernel) (by decide +kernel)
set_option maxRecDepth 20000 in
theorem gX4_locate_X4_isOn : GoodIn wsX4_locate (va_wsS RX4 61 yX4_isOn wsX4_isOn) := goodIn_app (goodIn_of _ (by decide +kernel)) ggX4_locate_X4_isOn
set_option maxRecDepth 20000 in
theorem ggX4_locate_X4_least : GoodIn wsX4_locate wsX4_least := goodIn_r _ [62, 20, 52, 21, 51, 63, 64, 65, 7, 66, 1, 22, 2, 3, 28, 29, 30, 67, 68, 69, 70, 71, 72, 76, 77, 78, 79, 80, 81, 82, 83, 84, 85, 86, 87, 88, 89, 90, 91] (by decide +kernel) (by decide +kernel)
set_option maxRecDepth 20000 in
theorem gX4_locate_X4_least : GoodIn wsX4_locate (wsV RX4 121 RX4 yX4_least wsX4_least) := goodIn_app (goodIn_of _ (by decide +kernel)) ggX4_locate_X4_least
theorem dX4_locate_0 : decode cX4_locate 0 = .ok (.aload_n 0, 1) := by decide +kernel
theorem dX4_locate_1 : decode cX4_locate 1 = .ok (.iload_n 1, 1) := by decide +kernel
theorem dX4_locate_2 : decode cX4_locate 2 = .ok (.invokestatic 65, 3) := by decide +kernel
theorem dX4_locate_5 : decode cX4_locate 5 = .ok (.ifCond .eq 14, 3) := by decide +kernel
theorem dX4_locate_8 : decode cX4_locate 8 = .ok (.iload_n 2, 1) := by decide +kernel
theorem dX4_locate_9 : decode cX4_locate 9 = .ok (.invokestatic 65, 3) := by decide +kernel
theorem dX4_locate_12 : decode cX4_locate 12 = .ok (.ifCond .eq 7, 3) := by decide +kernel
theorem dX4_locate_15 : decode cX4_locate 15 = .ok (.iconst 0, 1) := by decide +kernel
theorem dX4_locate_16 : decode cX4_locate 16 = .ok (.goto 4, 3) := by decide +kernel
theorem dX4_locate_19 : decode cX4_locate 19 = .ok (.iconst 1, 1) := by decide +kernel
theorem dX4_locate_20 : decode cX4_locate 20 = .ok (.invokevirtual 69, 3) := by decide +kernel
theorem dX4_locate_23 : decode cX4_locate 23 = .ok (.ifCond .eq 5, 3) := by decide +kernel
theorem dX4_locate_26 : decode cX4_locate 26 = .ok (.iconst 0, 1) := by decide +kernel
theorem dX4_locate_27 : decode cX4_locate 27 = .ok (.ireturn, 1) := by decide +kernel
theorem dX4_locate_28 : decode cX4_locate 28 = .ok (.aload_n 0, 1) := by decide +kernel
theorem dX4_locate_29 : decode cX4_locate 29 = .ok (.invokevirtual 125, 3) := by decide +kernel
theorem dX4_locate_32 : decode cX4_locate 32 = .ok (.iconst 0, 1) := by decide +kernel
theorem dX4_locate_33 : decode cX4_locate 33 = .ok (.istore_n 3, 1) := by decide +kernel
theorem dX4_locate_34 : decode cX4_locate 34 = .ok (.iload_n 3, 1) := by decide +kernel
theorem dX4_locate_35 : decode cX4_locate 35 = .ok (.bipush 120, 2) := by decide +kernel
theorem dX4_locate_37 : decode cX4_locate 37 = .ok (.if_icmp .ge 24, 3) := by decide +kernel
theorem dX4_locate_40 : decode cX4_locate 40 = .ok (.aload_n 0, 1) := by decide +kernel
theorem dX4_locate_41 : decode cX4_locate 41 = .ok (.iload_n 3, 1) := by decide +kernel
theorem dX4_locate_42 : decode cX4_locate 42 = .ok (.iload_n 1, 1) := by decide +kernel
theorem dX4_locate_43 : decode cX4_locate 43 = .ok (.iload_n 2, 1) := by decide +kernel
theorem dX4_locate_44 : decode cX4_locate 44 = .ok (.invokevirtual 88, 3) := by decide +kernel
theorem dX4_locate_47 : decode cX4_locate 47 = .ok (.ifCond .eq 8, 3) := by decide +kernel
theorem dX4_locate_50 : decode cX4_locate 50 = .ok (.bipush (-100), 2) := by decide +kernel
theorem dX4_locate_52 : decode cX4_locate 52 = .ok (.iload_n 3, 1) := by decide +kernel
theorem dX4_locate_53 : decode cX4_locate 53 = .ok (.isub, 1) := by decide +kernel
theorem dX4_locate_54 : decode cX4_locate 54 = .ok (.ireturn, 1) := by decide +kernel
theorem dX4_locate_55 : decode cX4_locate 55 = .ok (.iinc 3 1, 3) := by decide +kernel
theorem dX4_locate_58 : decode cX4_locate 58 = .ok (.goto (-24), 3) := by decide +kernel
theorem dX4_locate_61 : decode cX4_locate 61 = .ok (.iconst 0, 1) := by decide +kernel
theorem dX4_locate_62 : decode cX4_locate 62 = .ok (.istore_n 3, 1) := by decide +kernel
theorem dX4_locate_63 : decode cX4_locate 63 = .ok (.iload_n 3, 1) := by decide +kernel
theorem dX4_locate_64 : decode cX4_locate 64 = .ok (.bipush 60, 2) := by decide +kernel
theorem dX4_locate_66 : decode cX4_locate 66 = .ok (.if_icmp .ge 67, 3) := by decide +kernel
theorem dX4_locate_69 : decode cX4_locate 69 = .ok (.aload_n 0, 1) := by decide +kernel
theorem dX4_locate_70 : decode cX4_locate 70 = .ok (.getfield 7, 3) := by decide +kernel
theorem dX4_locate_73 : decode cX4_locate 73 = .ok (.iload_n 3, 1) := by decide +kernel
theorem dX4_locate_74 : decode cX4_locate 74 = .ok (.baload, 1) := by decide +kernel
theorem dX4_locate_75 : decode cX4_locate 75 = .ok (.ifCond .eq 52, 3) := by decide +kernel
theorem dX4_locate_78 : decode cX4_locate 78 = .ok (.aload_n 0, 1) := by decide +kernel
theorem dX4_locate_79 : decode cX4_locate 79 = .ok (.getfield 13, 3) := by decide +kernel
theorem dX4_locate_82 : decode cX4_locate 82 = .ok (.iconst 2, 1) := by decide +kernel
theorem dX4_locate_83 : decode cX4_locate 83 = .ok (.iload_n 3, 1) := by decide +kernel
theorem dX4_locate_84 : decode cX4_locate 84 = .ok (.imul, 1) := by decide +kernel
theorem dX4_locate_85 : decode cX4_locate 85 = .ok (.iaload, 1) := by decide +kernel
theorem dX4_locate_86 : decode cX4_locate 86 = .ok (.aload_n 0, 1) := by decide +kernel
theorem dX4_locate_87 : decode cX4_locate 87 = .ok (.getfield 17, 3) := by decide +kernel
theorem dX4_locate_90 : decode cX4_locate 90 = .ok (.iconst 2, 1) := by decide +kernel
theorem dX4_locate_91 : decode cX4_locate 91 = .ok (.iload_n 3, 1) := by decide +kernel
theorem dX4_locate_92 : decode cX4_locate 92 = .ok (.imul, 1) := by decide +kernel
theorem dX4_locate_93 : decode cX4_locate 93 = .ok (.iaload, 1) := by decide +kernel
theorem dX4_locate_94 : decode cX4_locate 94 = .ok (.aload_n 0, 1) := by decide +kernel
theorem dX4_locate_95 : decode cX4_locate 95 = .ok (.getfield 13, 3) := by decide +kernel
theorem dX4_locate_98 : decode cX4_locate 98 = .ok (.iconst 2, 1) := by decide +kernel
theorem dX4_locate_99 : decode cX4_locate 99 = .ok (.iload_n 3, 1) := by decide +kernel
theorem dX4_locate_100 : decode cX4_locate 100 = .ok (.imul, 1) := by decide +kernel
theorem dX4_locate_101 : decode cX4_locate 101 = .ok (.iconst 1, 1) := by decide +kernel
theorem dX4_locate_102 : decode cX4_locate 102 = .ok (.iadd, 1) := by decide +kernel
theorem dX4_locate_103 : decode cX4_locate 103 = .ok (.iaload, 1) := by decide +kernel
theorem dX4_locate_104 : decode cX4_locate 104 = .ok (.aload_n 0, 1) := by decide +kernel
theorem dX4_locate_105 : decode cX4_locate 105 = .ok (.getfield 17, 3) := by decide +kernel
theorem dX4_locate_108 : decode cX4_locate 108 = .ok (.iconst 2, 1) := by decide +kernel
theorem dX4_locate_109 : decode cX4_locate 109 = .ok (.iload_n 3, 1) := by decide +kernel
theorem dX4_locate_110 : decode cX4_locate 110 = .ok (.imul, 1) := by decide +kernel
theorem dX4_locate_111 : decode cX4_locate 111 = .ok (.iconst 1, 1) := by decide +kernel
theorem dX4_locate_112 : decode cX4_locate 112 = .ok (.iadd, 1) := by decide +kernel
theorem dX4_locate_113 : decode cX4_locate 113 = .ok (.iaload, 1) := by decide +kernel
theorem dX4_locate_114 : decode cX4_locate 114 = .ok (.iload_n 1, 1) := by decide +kernel
theorem dX4_locate_115 : decode cX4_locate 115 = .ok (.iload_n 2, 1) := by decide +kernel
theorem dX4_locate_116 : decode cX4_locate 116 = .ok (.invokestatic 61, 3) := by decide +kernel
theorem dX4_locate_119 : decode cX4_locate 119 = .ok (.ifCond .eq 8, 3) := by decide +kernel
theorem dX4_locate_122 : decode cX4_locate 122 = .ok (.bipush (-2), 2) := by decide +kernel
theorem dX4_locate_124 : decode cX4_locate 124 = .ok (.iload_n 3, 1) := by decide +kernel
theorem dX4_locate_125 : decode cX4_locate 125 = .ok (.isub, 1) := by decide +kernel
theorem dX4_locate_126 : decode cX4_locate 126 = .ok (.ireturn, 1) := by decide +kernel
theorem dX4_locate_127 : decode cX4_locate 127 = .ok (.iinc 3 1, 3) := by decide +kernel
theorem dX4_locate_130 : decode cX4_locate 130 = .ok (.goto (-67), 3) := by decide +kernel
theorem dX4_locate_133 : decode cX4_locate 133 = .ok (.aload_n 0, 1) := by decide +kernel
theorem dX4_locate_134 : decode cX4_locate 134 = .ok (.iload_n 1, 1) := by decide +kernel
theorem dX4_locate_135 : decode cX4_locate 135 = .ok (.iload_n 2, 1) := by decide +kernel
theorem dX4_locate_136 : decode cX4_locate 136 = .ok (.iconst (-1), 1) := by decide +kernel
theorem dX4_locate_137 : decode cX4_locate 137 = .ok (.invokevirtual 121, 3) := by decide +kernel
theorem dX4_locate_140 : decode cX4_locate 140 = .ok (.istore_n 3, 1) := by decide +kernel
theorem dX4_locate_141 : decode cX4_locate 141 = .ok (.iload_n 3, 1) := by decide +kernel
theorem dX4_locate_142 : decode cX4_locate 142 = .ok (.ifCond .ge 7, 3) := by decide +kernel
theorem dX4_locate_145 : decode cX4_locate 145 = .ok (.iconst 0, 1) := by decide +kernel
theorem dX4_locate_146 : decode cX4_locate 146 = .ok (.goto 9, 3) := by decide +kernel
theorem dX4_locate_149 : decode cX4_locate 149 = .ok (.aload_n 0, 1) := by decide +kernel
theorem dX4_locate_150 : decode cX4_locate 150 = .ok (.getfield 36, 3) := by decide +kernel
theorem dX4_locate_153 : decode cX4_locate 153 = .ok (.iload_n 3, 1) := by decide +kernel
theorem dX4_locate_154 : decode cX4_locate 154 = .ok (.iaload, 1) := by decide +kernel
theorem dX4_locate_155 : decode cX4_locate 155 = .ok (.ireturn, 1) := by decide +kernel
set_option maxRecDepth 20000 in
theorem ggX4_height_X4_back : GoodIn wsX4_height wsX4_back := goodIn_r _ [7] (by decide +kernel) (by decide +kernel)
set_option maxRecDepth 20000 in
theorem gX4_height_X4_back : GoodIn wsX4_height (va_wsS RX4 80 yX4_back wsX4_back) := goodIn_app (goodIn_of _ (by decide +kernel)) ggX4_height_X4_back
theorem dX4_height_0 : decode cX4_height 0 = .ok (.aload_n 0, 1) := by decide +kernel
theorem dX4_height_1 : decode cX4_height 1 = .ok (.getfield 13, 3) := by decide +kernel
theorem dX4_height_4 : decode cX4_height 4 = .ok (.iconst 2, 1) := by decide +kernel
theorem dX4_height_5 : decode cX4_height 5 = .ok (.iload_n 1, 1) := by decide +kernel
theorem dX4_height_6 : decode cX4_height 6 = .ok (.imul, 1) := by decide +kernel
theorem dX4_height_7 : decode cX4_height 7 = .ok (.iaload, 1) := by decide +kernel
theorem dX4_height_8 : decode cX4_height 8 = .ok (.aload_n 0, 1) := by decide +kernel
theorem dX4_height_9 : decode cX4_height 9 = .ok (.getfield 13, 3) := by decide +kernel
theorem dX4_height_12 : decode cX4_height 12 = .ok (.iconst 2, 1) := by decide +kernel
theorem dX4_height_13 : decode cX4_height 13 = .ok (.iload_n 1, 1) := by decide +kernel
theorem dX4_height_14 : decode cX4_height 14 = .ok (.imul, 1) := by decide +kernel
theorem dX4_height_15 : decode cX4_height 15 = .ok (.iconst 1, 1) := by decide +kernel
theorem dX4_height_16 : decode cX4_height 16 = .ok (.iadd, 1) := by decide +kernel
theorem dX4_height_17 : decode cX4_height 17 = .ok (.iaload, 1) := by decide +kernel
theorem dX4_height_18 : decode cX4_height 18 = .ok (.if_icmp .ge 9, 3) := by decide +kernel
theorem dX4_height_21 : decode cX4_height 21 = .ok (.iconst 2, 1) := by decide +kernel
theorem dX4_height_22 : decode cX4_height 22 = .ok (.iload_n 1, 1) := by decide +kernel
theorem dX4_height_23 : decode cX4_height 23 = .ok (.imul, 1) := by decide +kernel
theorem dX4_height_24 : decode cX4_height 24 = .ok (.goto 8, 3) := by decide +kernel
theorem dX4_height_27 : decode cX4_height 27 = .ok (.iconst 2, 1) := by decide +kernel
theorem dX4_height_28 : decode cX4_height 28 = .ok (.iload_n 1, 1) := by decide +kernel
theorem dX4_height_29 : decode cX4_height 29 = .ok (.imul, 1) := by decide +kernel
theorem dX4_height_30 : decode cX4_height 30 = .ok (.iconst 1, 1) := by decide +kernel
theorem dX4_height_31 : decode cX4_height 31 = .ok (.iadd, 1) := by decide +kernel
theorem dX4_height_32 : decode cX4_height 32 = .ok (.istore 4, 2) := by decide +kernel
theorem dX4_height_34 : decode cX4_height 34 = .ok (.iload 4, 2) := by decide +kernel
theorem dX4_height_36 : decode cX4_height 36 = .ok (.invokestatic 80, 3) := by decide +kernel
theorem dX4_height_39 : decode cX4_height 39 = .ok (.istore 5, 2) := by decide +kernel
theorem dX4_height_41 : decode cX4_height 41 = .ok (.aload_n 0, 1) := by decide +kernel
theorem dX4_height_42 : decode cX4_height 42 = .ok (.getfield 13, 3) := by decide +kernel
theorem dX4_height_45 : decode cX4_height 45 = .ok (.iload 4, 2) := by decide +kernel
theorem dX4_height_47 : decode cX4_height 47 = .ok (.iaload, 1) := by decide +kernel
theorem dX4_height_48 : decode cX4_height 48 = .ok (.aload_n 0, 1) := by decide +kernel
theorem dX4_height_49 : decode cX4_height 49 = .ok (.getfield 13, 3) := by decide +kernel
theorem dX4_height_52 : decode cX4_height 52 = .ok (.iload 5, 2) := by decide +kernel
theorem dX4_height_54 : decode cX4_height 54 = .ok (.iaload, 1) := by decide +kernel
theorem dX4_height_55 : decode cX4_height 55 = .ok (.if_icmp .ne 102, 3) := by decide +kernel
theorem dX4_height_58 : decode cX4_height 58 = .ok (.aload_n 0, 1) := by decide +kernel
theorem dX4_height_59 : decode cX4_height 59 = .ok (.getfield 17, 3) := by decide +kernel
theorem dX4_height_62 : decode cX4_height 62 = .ok (.iload 4, 2) := by decide +kernel
theorem dX4_height_64 : decode cX4_height 64 = .ok (.iaload, 1) := by decide +kernel
theorem dX4_height_65 : decode cX4_height 65 = .ok (.aload_n 0, 1) := by decide +kernel
theorem dX4_height_66 : decode cX4_height 66 = .ok (.getfield 17, 3) := by decide +kernel
theorem dX4_height_69 : decode cX4_height 69 = .ok (.iload 5, 2) := by decide +kernel
theorem dX4_height_71 : decode cX4_height 71 = .ok (.iaload, 1) := by decide +kernel
theorem dX4_height_72 : decode cX4_height 72 = .ok (.if_icmp .ge 13, 3) := by decide +kernel
theorem dX4_height_75 : decode cX4_height 75 = .ok (.aload_n 0, 1) := by decide +kernel
theorem dX4_height_76 : decode cX4_height 76 = .ok (.getfield 17, 3) := by decide +kernel
theorem dX4_height_79 : decode cX4_height 79 = .ok (.iload 4, 2) := by decide +kernel
theorem dX4_height_81 : decode cX4_height 81 = .ok (.iaload, 1) := by decide +kernel
theorem dX4_height_82 : decode cX4_height 82 = .ok (.goto 10, 3) := by decide +kernel
theorem dX4_height_85 : decode cX4_height 85 = .ok (.aload_n 0, 1) := by decide +kernel
theorem dX4_height_86 : decode cX4_height 86 = .ok (.getfield 17, 3) := by decide +kernel
theorem dX4_height_89 : decode cX4_height 89 = .ok (.iload 5, 2) := by decide +kernel
theorem dX4_height_91 : decode cX4_height 91 = .ok (.iaload, 1) := by decide +kernel
theorem dX4_height_92 : decode cX4_height 92 = .ok (.istore 6, 2) := by decide +kernel
theorem dX4_height_94 : decode cX4_height 94 = .ok (.aload_n 0, 1) := by decide +kernel
theorem dX4_height_95 : decode cX4_height 95 = .ok (.getfield 17, 3) := by decide +kernel
theorem dX4_height_98 : decode cX4_height 98 = .ok (.iload 4, 2) := by decide +kernel
theorem dX4_height_100 : decode cX4_height 100 = .ok (.iaload, 1) := by decide +kernel
theorem dX4_height_101 : decode cX4_height 101 = .ok (.aload_n 0, 1) := by decide +kernel
theorem dX4_height_102 : decode cX4_height 102 = .ok (.getfield 17, 3) := by decide +kernel
theorem dX4_height_105 : decode cX4_height 105 = .ok (.iload 5, 2) := by decide +kernel
theorem dX4_height_107 : decode cX4_height 107 = .ok (.iaload, 1) := by decide +kernel
theorem dX4_height_108 : decode cX4_height 108 = .ok (.if_icmp .ge 13, 3) := by decide +kernel
theorem dX4_height_111 : decode cX4_height 111 = .ok (.aload_n 0, 1) := by decide +kernel
theorem dX4_height_112 : decode cX4_height 112 = .ok (.getfield 17, 3) := by decide +kernel
theorem dX4_height_115 : decode cX4_height 115 = .ok (.iload 5, 2) := by decide +kernel
theorem dX4_height_117 : decode cX4_height 117 = .ok (.iaload, 1) := by decide +kernel
theorem dX4_height_118 : decode cX4_height 118 = .ok (.goto 10, 3) := by decide +kernel
theorem dX4_height_121 : decode cX4_height 121 = .ok (.aload_n 0, 1) := by decide +kernel
theorem dX4_height_122 : decode cX4_height 122 = .ok (.getfield 17, 3) := by decide +kernel
theorem dX4_height_125 : decode cX4_height 125 = .ok (.iload 4, 2) := by decide +kernel
theorem dX4_height_127 : decode cX4_height 127 = .ok (.iaload, 1) := by decide +kernel
theorem dX4_height_128 : decode cX4_height 128 = .ok (.istore 7, 2) := by decide +kernel
theorem dX4_height_130 : decode cX4_height 130 = .ok (.iload 6, 2) := by decide +kernel
theorem dX4_height_132 : decode cX4_height 132 = .ok (.iload_n 3, 1) := by decide +kernel
theorem dX4_height_133 : decode cX4_height 133 = .ok (.if_icmp .le 9, 3) := by decide +kernel
theorem dX4_height_136 : decode cX4_height 136 = .ok (.iload 6, 2) := by decide +kernel
theorem dX4_height_138 : decode cX4_height 138 = .ok (.i2l, 1) := by decide +kernel
theorem dX4_height_139 : decode cX4_height 139 = .ok (.goto 17, 3) := by decide +kernel
theorem dX4_height_142 : decode cX4_height 142 = .ok (.iload 7, 2) := by decide +kernel
theorem dX4_height_144 : decode cX4_height 144 = .ok (.iload_n 3, 1) := by decide +kernel
theorem dX4_height_145 : decode cX4_height 145 = .ok (.if_icmp .le 8, 3) := by decide +kernel
theorem dX4_height_148 : decode cX4_height 148 = .ok (.iload_n 3, 1) := by decide +kernel
theorem dX4_height_149 : decode cX4_height 149 = .ok (.i2l, 1) := by decide +kernel
theorem dX4_height_150 : decode cX4_height 150 = .ok (.goto 6, 3) := by decide +kernel
theorem dX4_height_153 : decode cX4_height 153 = .ok (.ldc2_w 140, 3) := by decide +kernel
theorem dX4_height_156 : decode cX4_height 156 = .ok (.lreturn, 1) := by decide +kernel
theorem dX4_height_157 : decode cX4_height 157 = .ok (.aload_n 0, 1) := by decide +kernel
theorem dX4_height_158 : decode cX4_height 158 = .ok (.getfield 17, 3) := by decide +kernel
theorem dX4_height_161 : decode cX4_height 161 = .ok (.iload 4, 2) := by decide +kernel
theorem dX4_height_163 : decode cX4_height 163 = .ok (.iaload, 1) := by decide +kernel
theorem dX4_height_164 : decode cX4_height 164 = .ok (.i2l, 1) := by decide +kernel
theorem dX4_height_165 : decode cX4_height 165 = .ok (.aload_n 0, 1) := by decide +kernel
theorem dX4_height_166 : decode cX4_height 166 = .ok (.getfield 13, 3) := by decide +kernel
theorem dX4_height_169 : decode cX4_height 169 = .ok (.iload 5, 2) := by decide +kernel
theorem dX4_height_171 : decode cX4_height 171 = .ok (.iaload, 1) := by decide +kernel
theorem dX4_height_172 : decode cX4_height 172 = .ok (.aload_n 0, 1) := by decide +kernel
theorem dX4_height_173 : decode cX4_height 173 = .ok (.getfield 13, 3) := by decide +kernel
theorem dX4_height_176 : decode cX4_height 176 = .ok (.iload 4, 2) := by decide +kernel
theorem dX4_height_178 : decode cX4_height 178 = .ok (.iaload, 1) := by decide +kernel
theorem dX4_height_179 : decode cX4_height 179 = .ok (.isub, 1) := by decide +kernel
theorem dX4_height_180 : decode cX4_height 180 = .ok (.i2l, 1) := by decide +kernel
theorem dX4_height_181 : decode cX4_height 181 = .ok (.lmul, 1) := by decide +kernel
theorem dX4_height_182 : decode cX4_height 182 = .ok (.aload_n 0, 1) := by decide +kernel
theorem dX4_height_183 : decode cX4_height 183 = .ok (.getfield 17, 3) := by decide +kernel
theorem dX4_height_186 : decode cX4_height 186 = .ok (.iload 5, 2) := by decide +kernel
theorem dX4_height_188 : decode cX4_height 188 = .ok (.iaload, 1) := by decide +kernel
theorem dX4_height_189 : decode cX4_height 189 = .ok (.aload_n 0, 1) := by decide +kernel
theorem dX4_height_190 : decode cX4_height 190 = .ok (.getfield 17, 3) := by decide +kernel
theorem dX4_height_193 : decode cX4_height 193 = .ok (.iload 4, 2) := by decide +kernel
theorem dX4_height_195 : decode cX4_height 195 = .ok (.iaload, 1) := by decide +kernel
theorem dX4_height_196 : decode cX4_height 196 = .ok (.isub, 1) := by decide +kernel
theorem dX4_height_197 : decode cX4_height 197 = .ok (.i2l, 1) := by decide +kernel
theorem dX4_height_198 : decode cX4_height 198 = .ok (.iload_n 2, 1) := by decide +kernel
theorem dX4_height_199 : decode cX4_height 199 = .ok (.aload_n 0, 1) := by decide +kernel
theorem dX4_height_200 : decode cX4_height 200 = .ok (.getfield 13, 3) := by decide +kernel
theorem dX4_height_203 : decode cX4_height 203 = .ok (.iload 4, 2) := by decide +kernel
theorem dX4_height_205 : decode cX4_height 205 = .ok (.iaload, 1) := by decide +kernel
theorem dX4_height_206 : decode cX4_height 206 = .ok (.isub, 1) := by decide +kernel
theorem dX4_height_207 : decode cX4_height 207 = .ok (.i2l, 1) := by decide +kernel
theorem dX4_height_208 : decode cX4_height 208 = .ok (.lmul, 1) := by decide +kernel
theorem dX4_height_209 : decode cX4_height 209 = .ok (.ladd, 1) := by decide +kernel
theorem dX4_height_210 : decode cX4_height 210 = .ok (.lreturn, 1) := by decide +kernel
theorem dX4_width_0 : decode cX4_width 0 = .ok (.aload_n 0, 1) := by decide +kernel
theorem dX4_width_1 : decode cX4_width 1 = .ok (.getfield 13, 3) := by decide +kernel
theorem dX4_width_4 : decode cX4_width 4 = .ok (.iconst 2, 1) := by decide +kernel
theorem dX4_width_5 : decode cX4_width 5 = .ok (.iload_n 1, 1) := by decide +kernel
theorem dX4_width_6 : decode cX4_width 6 = .ok (.imul, 1) := by decide +kernel
theorem dX4_width_7 : decode cX4_width 7 = .ok (.iconst 1, 1) := by decide +kernel
theorem dX4_width_8 : decode cX4_width 8 = .ok (.iadd, 1) := by decide +kernel
theorem dX4_width_9 : decode cX4_width 9 = .ok (.iaload, 1) := by decide +kernel
theorem dX4_width_10 : decode cX4_width 10 = .ok (.aload_n 0, 1) := by decide +kernel
theorem dX4_width_11 : decode cX4_width 11 = .ok (.getfield 13, 3) := by decide +kernel
theorem dX4_width_14 : decode cX4_width 14 = .ok (.iconst 2, 1) := by decide +kernel
theorem dX4_width_15 : decode cX4_width 15 = .ok (.iload_n 1, 1) := by decide +kernel
theorem dX4_width_16 : decode cX4_width 16 = .ok (.imul, 1) := by decide +kernel
theorem dX4_width_17 : decode cX4_width 17 = .ok (.iaload, 1) := by decide +kernel
theorem dX4_width_18 : decode cX4_width 18 = .ok (.isub, 1) := by decide +kernel
theorem dX4_width_19 : decode cX4_width 19 = .ok (.istore_n 2, 1) := by decide +kernel
theorem dX4_width_20 : decode cX4_width 20 = .ok (.iload_n 2, 1) := by decide +kernel
theorem dX4_width_21 : decode cX4_width 21 = .ok (.ifCond .ne 7, 3) := by decide +kernel
theorem dX4_width_24 : decode cX4_width 24 = .ok (.lconst 1, 1) := by decide +kernel
theorem dX4_width_25 : decode cX4_width 25 = .ok (.goto 15, 3) := by decide +kernel
theorem dX4_width_28 : decode cX4_width 28 = .ok (.iload_n 2, 1) := by decide +kernel
theorem dX4_width_29 : decode cX4_width 29 = .ok (.ifCond .ge 9, 3) := by decide +kernel
theorem dX4_width_32 : decode cX4_width 32 = .ok (.iload_n 2, 1) := by decide +kernel
theorem dX4_width_33 : decode cX4_width 33 = .ok (.ineg, 1) := by decide +kernel
theorem dX4_width_34 : decode cX4_width 34 = .ok (.i2l, 1) := by decide +kernel
theorem dX4_width_35 : decode cX4_width 35 = .ok (.goto 5, 3) := by decide +kernel
theorem dX4_width_38 : decode cX4_width 38 = .ok (.iload_n 2, 1) := by decide +kernel
theorem dX4_width_39 : decode cX4_width 39 = .ok (.i2l, 1) := by decide +kernel
theorem dX4_width_40 : decode cX4_width 40 = .ok (.lreturn, 1) := by decide +kernel
set_option maxRecDepth 20000 in
theorem ggX4_isMet_X4_height : GoodIn wsX4_isMet wsX4_height := goodIn_r _ [6, 1, 7, 8, 9, 10, 5, 11, 16, 17, 18, 19, 20, 21, 22, 23, 24, 25, 26, 27, 28, 29, 30, 31] (by decide +kernel) (by decide +kernel)
set_option maxRecDepth 20000 in
theorem gX4_isMet_X4_height : GoodIn wsX4_isMet (wsV RX4 142 RX4 yX4_height wsX4_height) := goodIn_app (goodIn_of _ (by decide +kernel)) ggX4_isMet_X4_height
set_option maxRecDepth 20000 in
theorem ggX4_isMet_X4_width : GoodIn wsX4_isMet wsX4_width := goodIn_r _ [15, 1, 16, 17, 18, 19, 20, 21, 22, 23, 24, 25, 26, 27, 28, 29, 30, 31] (by decide +kernel) (by decide +kernel)
set_option maxRecDepth 20000 in
theorem gX4_isMet_X4_width : GoodIn wsX4_isMet (wsV RX4 146 RX4 yX4_width wsX4_width) := goodIn_app (goodIn_of _ (by decide +kernel)) ggX4_isMet_X4_width
theorem dX4_isMet_0 : decode cX4_isMet 0 = .ok (.aload_n 0, 1) := by decide +kernel
theorem dX4_isMet_1 : decode cX4_isMet 1 = .ok (.getfield 13, 3) := by decide +kernel
theorem dX4_isMet_4 : decode cX4_isMet 4 = .ok (.iconst 2, 1) := by decide +kernel
theorem dX4_isMet_5 : decode cX4_isMet 5 = .ok (.iload_n 1, 1) := by decide +kernel
theorem dX4_isMet_6 : decode cX4_isMet 6 = .ok (.imul, 1) := by decide +kernel
theorem dX4_isMet_7 : decode cX4_isMet 7 = .ok (.iaload, 1) := by decide +kernel
theorem dX4_isMet_8 : decode cX4_isMet 8 = .ok (.istore 4, 2) := by decide +kernel
theorem dX4_isMet_10 : decode cX4_isMet 10 = .ok (.aload_n 0, 1) := by decide +kernel
theorem dX4_isMet_11 : decode cX4_isMet 11 = .ok (.getfield 13, 3) := by decide +kernel
theorem dX4_isMet_14 : decode cX4_isMet 14 = .ok (.iconst 2, 1) := by decide +kernel
theorem dX4_isMet_15 : decode cX4_isMet 15 = .ok (.iload_n 1, 1) := by decide +kernel
theorem dX4_isMet_16 : decode cX4_isMet 16 = .ok (.imul, 1) := by decide +kernel
theorem dX4_isMet_17 : decode cX4_isMet 17 = .ok (.iconst 1, 1) := by decide +kernel
theorem dX4_isMet_18 : decode cX4_isMet 18 = .ok (.iadd, 1) := by decide +kernel
theorem dX4_isMet_19 : decode cX4_isMet 19 = .ok (.iaload, 1) := by decide +kernel
theorem dX4_isMet_20 : decode cX4_isMet 20 = .ok (.istore 5, 2) := by decide +kernel
theorem dX4_isMet_22 : decode cX4_isMet 22 = .ok (.iload 4, 2) := by decide +kernel
theorem dX4_isMet_24 : decode cX4_isMet 24 = .ok (.iload 5, 2) := by decide +kernel
theorem dX4_isMet_26 : decode cX4_isMet 26 = .ok (.if_icmp .ne 28, 3) := by decide +kernel
theorem dX4_isMet_29 : decode cX4_isMet 29 = .ok (.iload 4, 2) := by decide +kernel
theorem dX4_isMet_31 : decode cX4_isMet 31 = .ok (.iload_n 2, 1) := by decide +kernel
theorem dX4_isMet_32 : decode cX4_isMet 32 = .ok (.if_icmp .ne 20, 3) := by decide +kernel
theorem dX4_isMet_35 : decode cX4_isMet 35 = .ok (.aload_n 0, 1) := by decide +kernel
theorem dX4_isMet_36 : decode cX4_isMet 36 = .ok (.iload_n 1, 1) := by decide +kernel
theorem dX4_isMet_37 : decode cX4_isMet 37 = .ok (.iload_n 2, 1) := by decide +kernel
theorem dX4_isMet_38 : decode cX4_isMet 38 = .ok (.iload_n 3, 1) := by decide +kernel
theorem dX4_isMet_39 : decode cX4_isMet 39 = .ok (.invokevirtual 142, 3) := by decide +kernel
theorem dX4_isMet_42 : decode cX4_isMet 42 = .ok (.iload_n 3, 1) := by decide +kernel
theorem dX4_isMet_43 : decode cX4_isMet 43 = .ok (.i2l, 1) := by decide +kernel
theorem dX4_isMet_44 : decode cX4_isMet 44 = .ok (.lcmp, 1) := by decide +kernel
theorem dX4_isMet_45 : decode cX4_isMet 45 = .ok (.ifCond .lt 7, 3) := by decide +kernel
theorem dX4_isMet_48 : decode cX4_isMet 48 = .ok (.iconst 1, 1) := by decide +kernel
theorem dX4_isMet_49 : decode cX4_isMet 49 = .ok (.goto 4, 3) := by decide +kernel
theorem dX4_isMet_52 : decode cX4_isMet 52 = .ok (.iconst 0, 1) := by decide +kernel
theorem dX4_isMet_53 : decode cX4_isMet 53 = .ok (.ireturn, 1) := by decide +kernel
theorem dX4_isMet_54 : decode cX4_isMet 54 = .ok (.iload 4, 2) := by decide +kernel
theorem dX4_isMet_56 : decode cX4_isMet 56 = .ok (.iload 5, 2) := by decide +kernel
theorem dX4_isMet_58 : decode cX4_isMet 58 = .ok (.if_icmp .ge 23, 3) := by decide +kernel
theorem dX4_isMet_61 : decode cX4_isMet 61 = .ok (.iload_n 2, 1) := by decide +kernel
theorem dX4_isMet_62 : decode cX4_isMet 62 = .ok (.iload 4, 2) := by decide +kernel
theorem dX4_isMet_64 : decode cX4_isMet 64 = .ok (.if_icmp .lt 13, 3) := by decide +kernel
theorem dX4_isMet_67 : decode cX4_isMet 67 = .ok (.iload_n 2, 1) := by decide +kernel
theorem dX4_isMet_68 : decode cX4_isMet 68 = .ok (.iload 5, 2) := by decide +kernel
theorem dX4_isMet_70 : decode cX4_isMet 70 = .ok (.if_icmp .gt 7, 3) := by decide +kernel
theorem dX4_isMet_73 : decode cX4_isMet 73 = .ok (.iconst 1, 1) := by decide +kernel
theorem dX4_isMet_74 : decode cX4_isMet 74 = .ok (.goto 24, 3) := by decide +kernel
theorem dX4_isMet_77 : decode cX4_isMet 77 = .ok (.iconst 0, 1) := by decide +kernel
theorem dX4_isMet_78 : decode cX4_isMet 78 = .ok (.goto 20, 3) := by decide +kernel
theorem dX4_isMet_81 : decode cX4_isMet 81 = .ok (.iload_n 2, 1) := by decide +kernel
theorem dX4_isMet_82 : decode cX4_isMet 82 = .ok (.iload 5, 2) := by decide +kernel
theorem dX4_isMet_84 : decode cX4_isMet 84 = .ok (.if_icmp .lt 13, 3) := by decide +kernel
theorem dX4_isMet_87 : decode cX4_isMet 87 = .ok (.iload_n 2, 1) := by decide +kernel
theorem dX4_isMet_88 : decode cX4_isMet 88 = .ok (.iload 4, 2) := by decide +kernel
theorem dX4_isMet_90 : decode cX4_isMet 90 = .ok (.if_icmp .gt 7, 3) := by decide +kernel
theorem dX4_isMet_93 : decode cX4_isMet 93 = .ok (.iconst 1, 1) := by decide +kernel
theorem dX4_isMet_94 : decode cX4_isMet 94 = .ok (.goto 4, 3) := by decide +kernel
theorem dX4_isMet_97 : decode cX4_isMet 97 = .ok (.iconst 0, 1) := by decide +kernel
theorem dX4_isMet_98 : decode cX4_isMet 98 = .ok (.istore 6, 2) := by decide +kernel
theorem dX4_isMet_100 : decode cX4_isMet 100 = .ok (.iload 6, 2) := by decide +kernel
theorem dX4_isMet_102 : decode cX4_isMet 102 = .ok (.ifCond .eq 26, 3) := by decide +kernel
theorem dX4_isMet_105 : decode cX4_isMet 105 = .ok (.aload_n 0, 1) := by decide +kernel
theorem dX4_isMet_106 : decode cX4_isMet 106 = .ok (.iload_n 1, 1) := by decide +kernel
theorem dX4_isMet_107 : decode cX4_isMet 107 = .ok (.iload_n 2, 1) := by decide +kernel
theorem dX4_isMet_108 : decode cX4_isMet 108 = .ok (.iload_n 3, 1) := by decide +kernel
theorem dX4_isMet_109 : decode cX4_isMet 109 = .ok (.invokevirtual 142, 3) := by decide +kernel
theorem dX4_isMet_112 : decode cX4_isMet 112 = .ok (.iload_n 3, 1) := by decide +kernel
theorem dX4_isMet_113 : decode cX4_isMet 113 = .ok (.i2l, 1) := by decide +kernel
theorem dX4_isMet_114 : decode cX4_isMet 114 = .ok (.aload_n 0, 1) := by decide +kernel
theorem dX4_isMet_115 : decode cX4_isMet 115 = .ok (.iload_n 1, 1) := by decide +kernel
theorem dX4_isMet_116 : decode cX4_isMet 116 = .ok (.invokevirtual 146, 3) := by decide +kernel
theorem dX4_isMet_119 : decode cX4_isMet 119 = .ok (.lmul, 1) := by decide +kernel
theorem dX4_isMet_120 : decode cX4_isMet 120 = .ok (.lcmp, 1) := by decide +kernel
theorem dX4_isMet_121 : decode cX4_isMet 121 = .ok (.ifCond .le 7, 3) := by decide +kernel
theorem dX4_isMet_124 : decode cX4_isMet 124 = .ok (.iconst 1, 1) := by decide +kernel
theorem dX4_isMet_125 : decode cX4_isMet 125 = .ok (.goto 4, 3) := by decide +kernel
theorem dX4_isMet_128 : decode cX4_isMet 128 = .ok (.iconst 0, 1) := by decide +kernel
theorem dX4_isMet_129 : decode cX4_isMet 129 = .ok (.ireturn, 1) := by decide +kernel
set_option maxRecDepth 20000 in
theorem ggX4_above_X4_isIn : GoodIn wsX4_above wsX4_isIn := goodIn_r _ [5] (by decide +kernel) (by decide +kernel)
set_option maxRecDepth 20000 in
theorem gX4_above_X4_isIn : GoodIn wsX4_above (va_wsS RX4 65 yX4_isIn wsX4_isIn) := goodIn_app (goodIn_of _ (by decide +kernel)) ggX4_above_X4_isIn
set_option maxRecDepth 20000 in
theorem ggX4_above_X4_refused : GoodIn wsX4_above wsX4_refused := goodIn_r _ [9, 10, 29, 30, 31, 32, 33, 34, 35, 36, 37, 38, 39, 40, 41, 42, 43, 44] (by decide +kernel) (by decide +kernel)
set_option maxRecDepth 20000 in
theorem gX4_above_X4_refused : GoodIn wsX4_above (wsV RX4 69 RX4 yX4_refused wsX4_refused) := goodIn_app (goodIn_of _ (by decide +kernel)) ggX4_above_X4_refused
set_option maxRecDepth 20000 in
theorem ggX4_above_X4_isMet : GoodIn wsX4_above wsX4_isMet := goodIn_r _ [14, 15, 16, 17, 18, 4, 19, 20, 21, 22, 23, 24, 25, 26, 27, 28, 29, 30, 31, 32, 33, 34, 35, 36, 37, 38, 39, 40, 41, 42, 43, 44] (by decide +kernel) (by decide +kernel)
set_option maxRecDepth 20000 in
theorem gX4_above_X4_isMet : GoodIn wsX4_above (wsV RX4 150 RX4 yX4_isMet wsX4_isMet) := goodIn_app (goodIn_of _ (by decide +kernel)) ggX4_above_X4_isMet
set_option maxRecDepth 20000 in
theorem ggX4_above_X4_height : GoodIn wsX4_above wsX4_height := goodIn_r _ [19, 15, 20, 21, 22, 23, 4, 24, 29, 30, 31, 32, 33, 34, 35, 36, 37, 38, 39, 40, 41, 42, 43, 44] (by decide +kernel) (by decide +kernel)
set_option maxRecDepth 20000 in
theorem gX4_above_X4_height : GoodIn wsX4_above (wsV RX4 142 RX4 yX4_height wsX4_height) := goodIn_app (goodIn_of _ (by decide +kernel)) ggX4_above_X4_height
set_option maxRecDepth 20000 in
theorem ggX4_above_X4_width : GoodIn wsX4_above wsX4_width := goodIn_r _ [28, 15, 29, 30, 31, 32, 33, 34, 35, 36, 37, 38, 39, 40, 41, 42, 43, 44] (by decide +kernel) (by decide +kernel)
set_option maxRecDepth 20000 in
theorem gX4_above_X4_width : GoodIn wsX4_above (wsV RX4 146 RX4 yX4_width wsX4_width) := goodIn_app (goodIn_of _ (by decide +kernel)) ggX4_above_X4_width
theorem dX4_above_0 : decode cX4_above 0 = .ok (.aload_n 0, 1) := by decide +kernel
theorem dX4_above_1 : decode cX4_above 1 = .ok (.iload_n 1, 1) := by decide +kernel
theorem dX4_above_2 : decode cX4_above 2 = .ok (.invokestatic 65, 3) := by decide +kernel
theorem dX4_above_5 : decode cX4_above 5 = .ok (.ifCond .eq 14, 3) := by decide +kernel
theorem dX4_above_8 : decode cX4_above 8 = .ok (.iload_n 2, 1) := by decide +kernel
theorem dX4_above_9 : decode cX4_above 9 = .ok (.invokestatic 65, 3) := by decide +kernel
theorem dX4_above_12 : decode cX4_above 12 = .ok (.ifCond .eq 7, 3) := by decide +kernel
theorem dX4_above_15 : decode cX4_above 15 = .ok (.iconst 0, 1) := by decide +kernel
theorem dX4_above_16 : decode cX4_above 16 = .ok (.goto 4, 3) := by decide +kernel
theorem dX4_above_19 : decode cX4_above 19 = .ok (.iconst 1, 1) := by decide +kernel
theorem dX4_above_20 : decode cX4_above 20 = .ok (.invokevirtual 69, 3) := by decide +kernel
theorem dX4_above_23 : decode cX4_above 23 = .ok (.ifCond .eq 5, 3) := by decide +kernel
theorem dX4_above_26 : decode cX4_above 26 = .ok (.iconst 0, 1) := by decide +kernel
theorem dX4_above_27 : decode cX4_above 27 = .ok (.ireturn, 1) := by decide +kernel
theorem dX4_above_28 : decode cX4_above 28 = .ok (.iconst (-1), 1) := by decide +kernel
theorem dX4_above_29 : decode cX4_above 29 = .ok (.istore_n 3, 1) := by decide +kernel
theorem dX4_above_30 : decode cX4_above 30 = .ok (.iconst 0, 1) := by decide +kernel
theorem dX4_above_31 : decode cX4_above 31 = .ok (.istore 4, 2) := by decide +kernel
theorem dX4_above_33 : decode cX4_above 33 = .ok (.iload 4, 2) := by decide +kernel
theorem dX4_above_35 : decode cX4_above 35 = .ok (.bipush 60, 2) := by decide +kernel
theorem dX4_above_37 : decode cX4_above 37 = .ok (.if_icmp .ge 85, 3) := by decide +kernel
theorem dX4_above_40 : decode cX4_above 40 = .ok (.aload_n 0, 1) := by decide +kernel
theorem dX4_above_41 : decode cX4_above 41 = .ok (.getfield 7, 3) := by decide +kernel
theorem dX4_above_44 : decode cX4_above 44 = .ok (.iload 4, 2) := by decide +kernel
theorem dX4_above_46 : decode cX4_above 46 = .ok (.baload, 1) := by decide +kernel
theorem dX4_above_47 : decode cX4_above 47 = .ok (.ifCond .eq 69, 3) := by decide +kernel
theorem dX4_above_50 : decode cX4_above 50 = .ok (.aload_n 0, 1) := by decide +kernel
theorem dX4_above_51 : decode cX4_above 51 = .ok (.iload 4, 2) := by decide +kernel
theorem dX4_above_53 : decode cX4_above 53 = .ok (.iload_n 1, 1) := by decide +kernel
theorem dX4_above_54 : decode cX4_above 54 = .ok (.iload_n 2, 1) := by decide +kernel
theorem dX4_above_55 : decode cX4_above 55 = .ok (.invokevirtual 150, 3) := by decide +kernel
theorem dX4_above_58 : decode cX4_above 58 = .ok (.ifCond .eq 58, 3) := by decide +kernel
theorem dX4_above_61 : decode cX4_above 61 = .ok (.iload_n 3, 1) := by decide +kernel
theorem dX4_above_62 : decode cX4_above 62 = .ok (.ifCond .lt 35, 3) := by decide +kernel
theorem dX4_above_65 : decode cX4_above 65 = .ok (.aload_n 0, 1) := by decide +kernel
theorem dX4_above_66 : decode cX4_above 66 = .ok (.iload 4, 2) := by decide +kernel
theorem dX4_above_68 : decode cX4_above 68 = .ok (.iload_n 1, 1) := by decide +kernel
theorem dX4_above_69 : decode cX4_above 69 = .ok (.iload_n 2, 1) := by decide +kernel
theorem dX4_above_70 : decode cX4_above 70 = .ok (.invokevirtual 142, 3) := by decide +kernel
theorem dX4_above_73 : decode cX4_above 73 = .ok (.aload_n 0, 1) := by decide +kernel
theorem dX4_above_74 : decode cX4_above 74 = .ok (.iload_n 3, 1) := by decide +kernel
theorem dX4_above_75 : decode cX4_above 75 = .ok (.invokevirtual 146, 3) := by decide +kernel
theorem dX4_above_78 : decode cX4_above 78 = .ok (.lmul, 1) := by decide +kernel
theorem dX4_above_79 : decode cX4_above 79 = .ok (.aload_n 0, 1) := by decide +kernel
theorem dX4_above_80 : decode cX4_above 80 = .ok (.iload_n 3, 1) := by decide +kernel
theorem dX4_above_81 : decode cX4_above 81 = .ok (.iload_n 1, 1) := by decide +kernel
theorem dX4_above_82 : decode cX4_above 82 = .ok (.iload_n 2, 1) := by decide +kernel
theorem dX4_above_83 : decode cX4_above 83 = .ok (.invokevirtual 142, 3) := by decide +kernel
theorem dX4_above_86 : decode cX4_above 86 = .ok (.aload_n 0, 1) := by decide +kernel
theorem dX4_above_87 : decode cX4_above 87 = .ok (.iload 4, 2) := by decide +kernel
theorem dX4_above_89 : decode cX4_above 89 = .ok (.invokevirtual 146, 3) := by decide +kernel
theorem dX4_above_92 : decode cX4_above 92 = .ok (.lmul, 1) := by decide +kernel
theorem dX4_above_93 : decode cX4_above 93 = .ok (.lcmp, 1) := by decide +kernel
theorem dX4_above_94 : decode cX4_above 94 = .ok (.ifCond .ge 7, 3) := by decide +kernel
theorem dX4_above_97 : decode cX4_above 97 = .ok (.iconst 1, 1) := by decide +kernel
theorem dX4_above_98 : decode cX4_above 98 = .ok (.goto 4, 3) := by decide +kernel
theorem dX4_above_101 : decode cX4_above 101 = .ok (.iconst 0, 1) := by decide +kernel
theorem dX4_above_102 : decode cX4_above 102 = .ok (.istore 5, 2) := by decide +kernel
theorem dX4_above_104 : decode cX4_above 104 = .ok (.iload 5, 2) := by decide +kernel
theorem dX4_above_106 : decode cX4_above 106 = .ok (.ifCond .eq 8, 3) := by decide +kernel
theorem dX4_above_109 : decode cX4_above 109 = .ok (.iload 4, 2) := by decide +kernel
theorem dX4_above_111 : decode cX4_above 111 = .ok (.goto 4, 3) := by decide +kernel
theorem dX4_above_114 : decode cX4_above 114 = .ok (.iload_n 3, 1) := by decide +kernel
theorem dX4_above_115 : decode cX4_above 115 = .ok (.istore_n 3, 1) := by decide +kernel
theorem dX4_above_116 : decode cX4_above 116 = .ok (.iinc 4 1, 3) := by decide +kernel
theorem dX4_above_119 : decode cX4_above 119 = .ok (.goto (-86), 3) := by decide +kernel
theorem dX4_above_122 : decode cX4_above 122 = .ok (.iload_n 3, 1) := by decide +kernel
theorem dX4_above_123 : decode cX4_above 123 = .ok (.ireturn, 1) := by decide +kernel
set_option maxRecDepth 20000 in
theorem ggX4_across_X4_isFace : GoodIn wsX4_across wsX4_isFace := goodIn_r _ [8, 1, 9, 10, 11, 7, 12, 13, 14, 15, 16, 17, 3, 18, 19, 20, 21, 22, 23, 24, 25, 26, 27, 28, 29, 30, 31, 32, 33, 34, 35, 36, 37, 38, 39, 40, 41, 42, 43, 44, 45, 46, 47, 48, 49, 50, 51, 52, 53, 54, 55, 56, 57, 58, 59, 60, 61, 62, 63, 64, 65, 66, 67, 68, 69, 79, 80, 81, 82, 83, 84, 85, 86, 87, 88, 89, 90, 91, 92, 93, 94] (by decide +kernel) (by decide +kernel)
set_option maxRecDepth 20000 in
theorem gX4_across_X4_isFace : GoodIn wsX4_across (wsV RX4 137 RX4 yX4_isFace wsX4_isFace) := goodIn_app (goodIn_of _ (by decide +kernel)) ggX4_across_X4_isFace
set_option maxRecDepth 20000 in
theorem ggX4_across_X4_refused : GoodIn wsX4_across wsX4_refused := goodIn_r _ [73, 74, 79, 80, 81, 82, 83, 84, 85, 86, 87, 88, 89, 90, 91, 92, 93, 94] (by decide +kernel) (by decide +kernel)
set_option maxRecDepth 20000 in
theorem gX4_across_X4_refused : GoodIn wsX4_across (wsV RX4 69 RX4 yX4_refused wsX4_refused) := goodIn_app (goodIn_of _ (by decide +kernel)) ggX4_across_X4_refused
set_option maxRecDepth 20000 in
theorem ggX4_across_X4_left : GoodIn wsX4_across wsX4_left := goodIn_r _ [78, 55, 17, 79, 80, 81, 82, 83, 84, 85, 86, 87, 88, 89, 90, 91, 92, 93, 94] (by decide +kernel) (by decide +kernel)
set_option maxRecDepth 20000 in
theorem gX4_across_X4_left : GoodIn wsX4_across (wsV RX4 128 RX4 yX4_left wsX4_left) := goodIn_app (goodIn_of _ (by decide +kernel)) ggX4_across_X4_left
set_option maxRecDepth 20000 in
theorem ggX4_across_X4_back : GoodIn wsX4_across wsX4_back := goodIn_r _ [27] (by decide +kernel) (by decide +kernel)
set_option maxRecDepth 20000 in
theorem gX4_across_X4_back : GoodIn wsX4_across (va_wsS RX4 80 yX4_back wsX4_back) := goodIn_app (goodIn_of _ (by decide +kernel)) ggX4_across_X4_back
theorem dX4_across_0 : decode cX4_across 0 = .ok (.aload_n 0, 1) := by decide +kernel
theorem dX4_across_1 : decode cX4_across 1 = .ok (.aload_n 0, 1) := by decide +kernel
theorem dX4_across_2 : decode cX4_across 2 = .ok (.iload_n 1, 1) := by decide +kernel
theorem dX4_across_3 : decode cX4_across 3 = .ok (.invokevirtual 137, 3) := by decide +kernel
theorem dX4_across_6 : decode cX4_across 6 = .ok (.ifCond .eq 15, 3) := by decide +kernel
theorem dX4_across_9 : decode cX4_across 9 = .ok (.aload_n 0, 1) := by decide +kernel
theorem dX4_across_10 : decode cX4_across 10 = .ok (.iload_n 2, 1) := by decide +kernel
theorem dX4_across_11 : decode cX4_across 11 = .ok (.invokevirtual 137, 3) := by decide +kernel
theorem dX4_across_14 : decode cX4_across 14 = .ok (.ifCond .eq 7, 3) := by decide +kernel
theorem dX4_across_17 : decode cX4_across 17 = .ok (.iconst 0, 1) := by decide +kernel
theorem dX4_across_18 : decode cX4_across 18 = .ok (.goto 4, 3) := by decide +kernel
theorem dX4_across_21 : decode cX4_across 21 = .ok (.iconst 1, 1) := by decide +kernel
theorem dX4_across_22 : decode cX4_across 22 = .ok (.invokevirtual 69, 3) := by decide +kernel
theorem dX4_across_25 : decode cX4_across 25 = .ok (.ifCond .eq 5, 3) := by decide +kernel
theorem dX4_across_28 : decode cX4_across 28 = .ok (.iconst 0, 1) := by decide +kernel
theorem dX4_across_29 : decode cX4_across 29 = .ok (.ireturn, 1) := by decide +kernel
theorem dX4_across_30 : decode cX4_across 30 = .ok (.iconst 0, 1) := by decide +kernel
theorem dX4_across_31 : decode cX4_across 31 = .ok (.istore_n 3, 1) := by decide +kernel
theorem dX4_across_32 : decode cX4_across 32 = .ok (.iload_n 3, 1) := by decide +kernel
theorem dX4_across_33 : decode cX4_across 33 = .ok (.aload_n 0, 1) := by decide +kernel
theorem dX4_across_34 : decode cX4_across 34 = .ok (.getfield 118, 3) := by decide +kernel
theorem dX4_across_37 : decode cX4_across 37 = .ok (.if_icmp .ge 27, 3) := by decide +kernel
theorem dX4_across_40 : decode cX4_across 40 = .ok (.aload_n 0, 1) := by decide +kernel
theorem dX4_across_41 : decode cX4_across 41 = .ok (.getfield 42, 3) := by decide +kernel
theorem dX4_across_44 : decode cX4_across 44 = .ok (.iload_n 3, 1) := by decide +kernel
theorem dX4_across_45 : decode cX4_across 45 = .ok (.iload_n 3, 1) := by decide +kernel
theorem dX4_across_46 : decode cX4_across 46 = .ok (.iload_n 1, 1) := by decide +kernel
theorem dX4_across_47 : decode cX4_across 47 = .ok (.if_icmp .ne 7, 3) := by decide +kernel
theorem dX4_across_50 : decode cX4_across 50 = .ok (.iconst 0, 1) := by decide +kernel
theorem dX4_across_51 : decode cX4_across 51 = .ok (.goto 6, 3) := by decide +kernel
theorem dX4_across_54 : decode cX4_across 54 = .ok (.sipush 1000, 3) := by decide +kernel
theorem dX4_across_57 : decode cX4_across 57 = .ok (.iastore, 1) := by decide +kernel
theorem dX4_across_58 : decode cX4_across 58 = .ok (.iinc 3 1, 3) := by decide +kernel
theorem dX4_across_61 : decode cX4_across 61 = .ok (.goto (-29), 3) := by decide +kernel
theorem dX4_across_64 : decode cX4_across 64 = .ok (.iconst 1, 1) := by decide +kernel
theorem dX4_across_65 : decode cX4_across 65 = .ok (.istore_n 3, 1) := by decide +kernel
theorem dX4_across_66 : decode cX4_across 66 = .ok (.iload_n 3, 1) := by decide +kernel
theorem dX4_across_67 : decode cX4_across 67 = .ok (.ifCond .eq 95, 3) := by decide +kernel
theorem dX4_across_70 : decode cX4_across 70 = .ok (.iconst 0, 1) := by decide +kernel
theorem dX4_across_71 : decode cX4_across 71 = .ok (.istore_n 3, 1) := by decide +kernel
theorem dX4_across_72 : decode cX4_across 72 = .ok (.iconst 0, 1) := by decide +kernel
theorem dX4_across_73 : decode cX4_across 73 = .ok (.istore 4, 2) := by decide +kernel
theorem dX4_across_75 : decode cX4_across 75 = .ok (.iload 4, 2) := by decide +kernel
theorem dX4_across_77 : decode cX4_across 77 = .ok (.bipush 120, 2) := by decide +kernel
theorem dX4_across_79 : decode cX4_across 79 = .ok (.if_icmp .ge 80, 3) := by decide +kernel
theorem dX4_across_82 : decode cX4_across 82 = .ok (.aload_n 0, 1) := by decide +kernel
theorem dX4_across_83 : decode cX4_across 83 = .ok (.getfield 7, 3) := by decide +kernel
theorem dX4_across_86 : decode cX4_across 86 = .ok (.iload 4, 2) := by decide +kernel
theorem dX4_across_88 : decode cX4_across 88 = .ok (.iconst 2, 1) := by decide +kernel
theorem dX4_across_89 : decode cX4_across 89 = .ok (.idiv, 1) := by decide +kernel
theorem dX4_across_90 : decode cX4_across 90 = .ok (.baload, 1) := by decide +kernel
theorem dX4_across_91 : decode cX4_across 91 = .ok (.ifCond .eq 62, 3) := by decide +kernel
theorem dX4_across_94 : decode cX4_across 94 = .ok (.aload_n 0, 1) := by decide +kernel
theorem dX4_across_95 : decode cX4_across 95 = .ok (.getfield 42, 3) := by decide +kernel
theorem dX4_across_98 : decode cX4_across 98 = .ok (.aload_n 0, 1) := by decide +kernel
theorem dX4_across_99 : decode cX4_across 99 = .ok (.iload 4, 2) := by decide +kernel
theorem dX4_across_101 : decode cX4_across 101 = .ok (.invokevirtual 128, 3) := by decide +kernel
theorem dX4_across_104 : decode cX4_across 104 = .ok (.iaload, 1) := by decide +kernel
theorem dX4_across_105 : decode cX4_across 105 = .ok (.iconst 1, 1) := by decide +kernel
theorem dX4_across_106 : decode cX4_across 106 = .ok (.iadd, 1) := by decide +kernel
theorem dX4_across_107 : decode cX4_across 107 = .ok (.aload_n 0, 1) := by decide +kernel
theorem dX4_across_108 : decode cX4_across 108 = .ok (.getfield 42, 3) := by decide +kernel
theorem dX4_across_111 : decode cX4_across 111 = .ok (.aload_n 0, 1) := by decide +kernel
theorem dX4_across_112 : decode cX4_across 112 = .ok (.iload 4, 2) := by decide +kernel
theorem dX4_across_114 : decode cX4_across 114 = .ok (.invokestatic 80, 3) := by decide +kernel
theorem dX4_across_117 : decode cX4_across 117 = .ok (.invokevirtual 128, 3) := by decide +kernel
theorem dX4_across_120 : decode cX4_across 120 = .ok (.iaload, 1) := by decide +kernel
theorem dX4_across_121 : decode cX4_across 121 = .ok (.if_icmp .ge 32, 3) := by decide +kernel
theorem dX4_across_124 : decode cX4_across 124 = .ok (.aload_n 0, 1) := by decide +kernel
theorem dX4_across_125 : decode cX4_across 125 = .ok (.getfield 42, 3) := by decide +kernel
theorem dX4_across_128 : decode cX4_across 128 = .ok (.aload_n 0, 1) := by decide +kernel
theorem dX4_across_129 : decode cX4_across 129 = .ok (.iload 4, 2) := by decide +kernel
theorem dX4_across_131 : decode cX4_across 131 = .ok (.invokestatic 80, 3) := by decide +kernel
theorem dX4_across_134 : decode cX4_across 134 = .ok (.invokevirtual 128, 3) := by decide +kernel
theorem dX4_across_137 : decode cX4_across 137 = .ok (.aload_n 0, 1) := by decide +kernel
theorem dX4_across_138 : decode cX4_across 138 = .ok (.getfield 42, 3) := by decide +kernel
theorem dX4_across_141 : decode cX4_across 141 = .ok (.aload_n 0, 1) := by decide +kernel
theorem dX4_across_142 : decode cX4_across 142 = .ok (.iload 4, 2) := by decide +kernel
theorem dX4_across_144 : decode cX4_across 144 = .ok (.invokevirtual 128, 3) := by decide +kernel
theorem dX4_across_147 : decode cX4_across 147 = .ok (.iaload, 1) := by decide +kernel
theorem dX4_across_148 : decode cX4_across 148 = .ok (.iconst 1, 1) := by decide +kernel
theorem dX4_across_149 : decode cX4_across 149 = .ok (.iadd, 1) := by decide +kernel
theorem dX4_across_150 : decode cX4_across 150 = .ok (.iastore, 1) := by decide +kernel
theorem dX4_across_151 : decode cX4_across 151 = .ok (.iconst 1, 1) := by decide +kernel
theorem dX4_across_152 : decode cX4_across 152 = .ok (.istore_n 3, 1) := by decide +kernel
theorem dX4_across_153 : decode cX4_across 153 = .ok (.iinc 4 1, 3) := by decide +kernel
theorem dX4_across_156 : decode cX4_across 156 = .ok (.goto (-81), 3) := by decide +kernel
theorem dX4_across_159 : decode cX4_across 159 = .ok (.goto (-93), 3) := by decide +kernel
theorem dX4_across_162 : decode cX4_across 162 = .ok (.aload_n 0, 1) := by decide +kernel
theorem dX4_across_163 : decode cX4_across 163 = .ok (.getfield 42, 3) := by decide +kernel
theorem dX4_across_166 : decode cX4_across 166 = .ok (.iload_n 2, 1) := by decide +kernel
theorem dX4_across_167 : decode cX4_across 167 = .ok (.iaload, 1) := by decide +kernel
theorem dX4_across_168 : decode cX4_across 168 = .ok (.ireturn, 1) := by decide +kernel
end
section
set_option maxRecDepth 20000 in
theorem ggL_add_X3_add : GoodIn wsL_add wsX3_add := goodIn_ca (goodIn_ca (goodIn_r _ [7, 8, 9, 10, 11, 12, 13, 14, 15, 6, 16, 17, 18, 19, 20, 21, 22, 23, 24, 25, 26, 27, 28, 29, 30, 31, 32, 33, 34, 35, 36, 37, 38, 39, 40, 41, 42, 43, 44, 45, 46, 47, 48, 49, 50, 51, 52, 53, 54, 55, 56, 57, 58, 59, 60, 61, 62, 63, 64, 65, 66, 67, 68, 69, 70, 71, 72, 73] (by decide +kernel) (by decide +kernel)) (goodIn_sub (fun _ h => List.mem_cons_of_mem _ (List.mem_append_left _ (List.mem_append_right _ h))) (by decide +kernel))) (goodIn_sub (fun _ h => List.mem_cons_of_mem _ (List.mem_append_right _ h)) (by decide +kernel))
set_option maxRecDepth 20000 in
theorem gL_add_X3_add : GoodIn wsL_add (wsV RL 7 RX3 yX3_add wsX3_add) := goodIn_app (goodIn_of _ (by decide +kernel)) ggL_add_X3_add
theorem dL_add_0 : decode cL_add 0 = .ok (.aload 5, 2) := by decide +kernel
theorem dL_add_2 : decode cL_add 2 = .ok (.iconst 0, 1) := by decide +kernel
theorem dL_add_3 : decode cL_add 3 = .ok (.aload_n 0, 1) := by decide +kernel
theorem dL_add_4 : decode cL_add 4 = .ok (.iload_n 1, 1) := by decide +kernel
theorem dL_add_5 : decode cL_add 5 = .ok (.iload_n 2, 1) := by decide +kernel
theorem dL_add_6 : decode cL_add 6 = .ok (.iload_n 3, 1) := by decide +kernel
theorem dL_add_7 : decode cL_add 7 = .ok (.iload 4, 2) := by decide +kernel
theorem dL_add_9 : decode cL_add 9 = .ok (.invokevirtual 7, 3) := by decide +kernel
theorem dL_add_12 : decode cL_add 12 = .ok (.i2l, 1) := by decide +kernel
theorem dL_add_13 : decode cL_add 13 = .ok (.lastore, 1) := by decide +kernel
theorem dL_add_14 : decode cL_add 14 = .ok (.goto 11, 3) := by decide +kernel
theorem dL_add_17 : decode cL_add 17 = .ok (.astore 6, 2) := by decide +kernel
theorem dL_add_19 : decode cL_add 19 = .ok (.iconst 1, 1) := by decide +kernel
theorem dL_add_20 : decode cL_add 20 = .ok (.ireturn, 1) := by decide +kernel
theorem dL_add_21 : decode cL_add 21 = .ok (.astore 6, 2) := by decide +kernel
theorem dL_add_23 : decode cL_add 23 = .ok (.iconst 2, 1) := by decide +kernel
theorem dL_add_24 : decode cL_add 24 = .ok (.ireturn, 1) := by decide +kernel
theorem dL_add_25 : decode cL_add 25 = .ok (.iconst 0, 1) := by decide +kernel
theorem dL_add_26 : decode cL_add 26 = .ok (.ireturn, 1) := by decide +kernel
set_option maxRecDepth 20000 in
theorem ggL_begins_X3_begins : GoodIn wsL_begins wsX3_begins := goodIn_ca (goodIn_r _ [6, 7, 8, 9, 10, 11, 12, 5, 13, 14, 15, 16, 17, 18, 19, 20, 21, 22, 23, 24, 25, 26, 27, 28, 29] (by decide +kernel) (by decide +kernel)) (goodIn_sub (fun _ h => List.mem_cons_of_mem _ (List.mem_append_right _ h)) (by decide +kernel))
set_option maxRecDepth 20000 in
theorem gL_begins_X3_begins : GoodIn wsL_begins (wsV RL 17 RX3 yX3_begins wsX3_begins) := goodIn_app (goodIn_of _ (by decide +kernel)) ggL_begins_X3_begins
theorem dL_begins_0 : decode cL_begins 0 = .ok (.aload_n 3, 1) := by decide +kernel
theorem dL_begins_1 : decode cL_begins 1 = .ok (.iconst 0, 1) := by decide +kernel
theorem dL_begins_2 : decode cL_begins 2 = .ok (.aload_n 0, 1) := by decide +kernel
theorem dL_begins_3 : decode cL_begins 3 = .ok (.iload_n 1, 1) := by decide +kernel
theorem dL_begins_4 : decode cL_begins 4 = .ok (.iload_n 2, 1) := by decide +kernel
theorem dL_begins_5 : decode cL_begins 5 = .ok (.invokevirtual 17, 3) := by decide +kernel
theorem dL_begins_8 : decode cL_begins 8 = .ok (.i2l, 1) := by decide +kernel
theorem dL_begins_9 : decode cL_begins 9 = .ok (.lastore, 1) := by decide +kernel
theorem dL_begins_10 : decode cL_begins 10 = .ok (.goto 7, 3) := by decide +kernel
theorem dL_begins_13 : decode cL_begins 13 = .ok (.astore 4, 2) := by decide +kernel
theorem dL_begins_15 : decode cL_begins 15 = .ok (.iconst 1, 1) := by decide +kernel
theorem dL_begins_16 : decode cL_begins 16 = .ok (.ireturn, 1) := by decide +kernel
theorem dL_begins_17 : decode cL_begins 17 = .ok (.iconst 0, 1) := by decide +kernel
theorem dL_begins_18 : decode cL_begins 18 = .ok (.ireturn, 1) := by decide +kernel
set_option maxRecDepth 20000 in
theorem ggL_next_X3_next : GoodIn wsL_next wsX3_next := goodIn_ca (goodIn_r _ [6, 7, 8, 9, 10, 11, 5, 12, 13, 14, 15, 16, 17, 18, 19, 20, 21, 22, 23, 24, 25, 26, 27, 28, 29, 30, 31, 32, 33, 34, 35, 36, 37, 38, 39, 40, 41, 42, 43, 44, 45, 46, 47, 48, 49, 50, 51, 52, 53, 54, 55, 56, 57, 58, 59, 60, 61, 62, 63, 64, 65, 66, 67, 68, 69, 70, 71, 72, 73, 74, 75, 76, 77, 78, 79, 80, 81, 82, 83, 84, 85, 86, 87, 88, 89, 90, 91, 92, 93, 94, 95, 96, 97, 98, 99, 100, 101, 102, 103, 104, 105, 106, 107, 108, 109, 110, 111, 112, 113, 114, 115, 116, 117, 118, 119, 120, 121, 122, 123, 124, 125, 126, 127, 128, 129, 130, 131, 132, 133, 134, 135, 136, 137, 138, 139, 140, 141, 142, 143, 144, 145, 146, 147, 148, 149, 150, 151, 152, 153, 154, 155, 156, 157, 158, 159, 160, 161, 162, 163, 164, 165, 166, 167, 168, 169, 170, 171, 172, 173, 174, 175, 176, 177, 178, 179, 180, 181, 182, 183, 184, 185, 186, 187, 188, 189, 190] (by decide +kernel) (by decide +kernel)) (goodIn_sub (fun _ h => List.mem_cons_of_mem _ (List.mem_append_right _ h)) (by decide +kernel))
set_option maxRecDepth 20000 in
theorem gL_next_X3_next : GoodIn wsL_next (wsV RL 23 RX3 yX3_next wsX3_next) := goodIn_app (goodIn_of _ (by decide +kernel)) ggL_next_X3_next
theorem dL_next_0 : decode cL_next 0 = .ok (.aload_n 2, 1) := by decide +kernel
theorem dL_next_1 : decode cL_next 1 = .ok (.iconst 0, 1) := by decide +kernel
theorem dL_next_2 : decode cL_next 2 = .ok (.aload_n 0, 1) := by decide +kernel
theorem dL_next_3 : decode cL_next 3 = .ok (.iload_n 1, 1) := by decide +kernel
theorem dL_next_4 : decode cL_next 4 = .ok (.invokevirtual 23, 3) := by decide +kernel
theorem dL_next_7 : decode cL_next 7 = .ok (.i2l, 1) := by decide +kernel
theorem dL_next_8 : decode cL_next 8 = .ok (.lastore, 1) := by decide +kernel
theorem dL_next_9 : decode cL_next 9 = .ok (.goto 6, 3) := by decide +kernel
theorem dL_next_12 : decode cL_next 12 = .ok (.astore_n 3, 1) := by decide +kernel
theorem dL_next_13 : decode cL_next 13 = .ok (.iconst 1, 1) := by decide +kernel
theorem dL_next_14 : decode cL_next 14 = .ok (.ireturn, 1) := by decide +kernel
theorem dL_next_15 : decode cL_next 15 = .ok (.iconst 0, 1) := by decide +kernel
theorem dL_next_16 : decode cL_next 16 = .ok (.ireturn, 1) := by decide +kernel
set_option maxRecDepth 20000 in
theorem ggL_face_X3_face : GoodIn wsL_face wsX3_face := goodIn_ca (goodIn_r _ [6, 7, 8, 9, 10, 11, 5, 12, 13, 14, 15, 16, 17, 18, 19, 20, 21, 22, 23, 24, 25, 26, 27, 28, 29, 30, 31, 32, 33, 34, 35, 36, 37, 38, 39, 40, 41, 42, 43, 44, 45, 46, 47, 48, 49, 50, 51, 52, 53, 54, 55, 56, 57, 58, 59, 60, 61, 62, 63, 64, 65, 66, 67, 68, 69, 70, 71, 72, 73, 74, 75, 76, 77, 78, 79, 80, 81, 82, 83, 84, 85, 86, 87, 88, 89, 90, 91, 92, 93, 94, 95, 96, 97, 98, 99, 100, 101, 102, 103, 104, 105, 106, 107, 108, 109, 110, 111, 112, 113, 114, 115, 116, 117, 118, 119, 120, 121, 122, 123, 124, 125, 126, 127, 128, 129, 130, 131, 132, 133, 134, 135, 136, 137, 138, 139, 140, 141, 142, 143, 144, 145, 146, 147, 148, 149, 150, 151, 152, 153, 154, 155, 156, 157, 158, 159, 160, 161, 162, 163, 164, 165, 166, 167, 168, 169, 170, 171, 172, 173, 174, 175, 176, 177, 178, 179, 180, 181, 182, 183, 184, 185, 186, 187, 188, 189, 190] (by decide +kernel) (by decide +kernel)) (goodIn_sub (fun _ h => List.mem_cons_of_mem _ (List.mem_append_right _ h)) (by decide +kernel))
set_option maxRecDepth 20000 in
theorem gL_face_X3_face : GoodIn wsL_face (wsV RL 27 RX3 yX3_face wsX3_face) := goodIn_app (goodIn_of _ (by decide +kernel)) ggL_face_X3_face
theorem dL_face_0 : decode cL_face 0 = .ok (.aload_n 2, 1) := by decide +kernel
theorem dL_face_1 : decode cL_face 1 = .ok (.iconst 0, 1) := by decide +kernel
theorem dL_face_2 : decode cL_face 2 = .ok (.aload_n 0, 1) := by decide +kernel
theorem dL_face_3 : decode cL_face 3 = .ok (.iload_n 1, 1) := by decide +kernel
theorem dL_face_4 : decode cL_face 4 = .ok (.invokevirtual 27, 3) := by decide +kernel
theorem dL_face_7 : decode cL_face 7 = .ok (.i2l, 1) := by decide +kernel
theorem dL_face_8 : decode cL_face 8 = .ok (.lastore, 1) := by decide +kernel
theorem dL_face_9 : decode cL_face 9 = .ok (.goto 6, 3) := by decide +kernel
theorem dL_face_12 : decode cL_face 12 = .ok (.astore_n 3, 1) := by decide +kernel
theorem dL_face_13 : decode cL_face 13 = .ok (.iconst 1, 1) := by decide +kernel
theorem dL_face_14 : decode cL_face 14 = .ok (.ireturn, 1) := by decide +kernel
theorem dL_face_15 : decode cL_face 15 = .ok (.iconst 0, 1) := by decide +kernel
theorem dL_face_16 : decode cL_face 16 = .ok (.ireturn, 1) := by decide +kernel
set_option maxRecDepth 20000 in
theorem ggL_piece_X3_piece : GoodIn wsL_piece wsX3_piece := goodIn_ca (goodIn_r _ [6, 7, 8, 9, 10, 11, 5, 12, 13, 14, 15, 16, 17, 18, 19, 20, 21, 22, 23, 24, 25, 26, 27, 28, 29, 30, 31, 32, 33, 34, 35, 36, 37, 38, 39, 40, 41, 42, 43, 44, 45, 46, 47, 48, 49, 50, 51, 52, 53, 54, 55, 56, 57, 58, 59, 60, 61, 62, 63, 64, 65, 66, 67, 68, 69, 70, 71, 72, 73, 74, 75, 76, 77, 78, 79, 80, 81, 82, 83, 84, 85, 86, 87, 88, 89, 90, 91, 92, 93, 94, 95, 96, 97, 98, 99, 100, 101, 102, 103, 104, 105, 106, 107, 108, 109, 110, 111, 112, 113, 114, 115, 116, 117, 118, 119, 120, 121, 122, 123, 124, 125, 126, 127, 128, 129, 130, 131, 132, 133, 134, 135, 136, 137, 138, 139, 140, 141, 142, 143, 144, 145, 146, 147, 148, 149, 150, 151, 152, 153, 154, 155, 156, 157, 158, 159, 160, 161, 162, 163, 164, 165, 166, 167, 168, 169, 170, 171, 172, 173, 174, 175, 176, 177, 178, 179, 180, 181, 182, 183, 184, 185, 186, 187, 188, 189, 190] (by decide +kernel) (by decide +kernel)) (goodIn_sub (fun _ h => List.mem_cons_of_mem _ (List.mem_append_right _ h)) (by decide +kernel))
set_option maxRecDepth 20000 in
theorem gL_piece_X3_piece : GoodIn wsL_piece (wsV RL 30 RX3 yX3_piece wsX3_piece) := goodIn_app (goodIn_of _ (by decide +kernel)) ggL_piece_X3_piece
theorem dL_piece_0 : decode cL_piece 0 = .ok (.aload_n 2, 1) := by decide +kernel
theorem dL_piece_1 : decode cL_piece 1 = .ok (.iconst 0, 1) := by decide +kernel
theorem dL_piece_2 : decode cL_piece 2 = .ok (.aload_n 0, 1) := by decide +kernel
theorem dL_piece_3 : decode cL_piece 3 = .ok (.iload_n 1, 1) := by decide +kernel
theorem dL_piece_4 : decode cL_piece 4 = .ok (.invokevirtual 30, 3) := by decide +kernel
theorem dL_piece_7 : decode cL_piece 7 = .ok (.i2l, 1) := by decide +kernel
theorem dL_piece_8 : decode cL_piece 8 = .ok (.lastore, 1) := by decide +kernel
theorem dL_piece_9 : decode cL_piece 9 = .ok (.goto 6, 3) := by decide +kernel
theorem dL_piece_12 : decode cL_piece 12 = .ok (.astore_n 3, 1) := by decide +kernel
theorem dL_piece_13 : decode cL_piece 13 = .ok (.iconst 1, 1) := by decide +kernel
theorem dL_piece_14 : decode cL_piece 14 = .ok (.ireturn, 1) := by decide +kernel
theorem dL_piece_15 : decode cL_piece 15 = .ok (.iconst 0, 1) := by decide +kernel
theorem dL_piece_16 : decode cL_piece 16 = .ok (.ireturn, 1) := by decide +kernel
set_option maxRecDepth 20000 in
theorem ggL_around_X3_around : GoodIn wsL_around wsX3_around := goodIn_ca (goodIn_r _ [6, 7, 8, 9, 10, 11, 12, 13, 14, 15, 5, 16, 17, 18, 19, 20, 21, 22, 23, 24, 25, 26, 27, 28, 29, 30, 31, 32, 33, 34, 35, 36, 37, 38, 39, 40, 41, 42, 43, 44, 45, 46, 47, 48, 49, 50, 51, 52, 53, 54, 55, 56, 57, 58, 59, 60, 61, 62, 63, 64, 65, 66, 67, 68, 69, 70, 71, 72, 73, 74, 75, 76, 77, 78, 79, 80, 81, 82, 83, 84, 85, 86, 87, 88, 89, 90, 91, 92, 93, 94, 95, 96, 97, 98, 99, 100, 101, 102, 103, 104, 105, 106, 107, 108, 109, 110, 111, 112, 113, 114, 115, 116, 117, 118, 119, 120, 121, 122, 123, 124, 125, 126, 127, 128, 129, 130, 131, 132, 133, 134, 135, 136, 137, 138, 139, 140, 141, 142, 143, 144, 145, 146, 147, 148, 149, 150, 151, 152, 153, 154, 155, 156, 157, 158, 159, 160, 161, 162, 163, 164, 165, 166, 167, 168, 169, 170, 171, 172, 173, 174, 175, 176, 177, 178, 179, 180, 181, 182] (by decide +kernel) (by decide +kernel)) (goodIn_sub (fun _ h => List.mem_cons_of_mem _ (List.mem_append_right _ h)) (by decide +kernel))
set_option maxRecDepth 20000 in
theorem gL_around_X3_around : GoodIn wsL_around (wsV RL 33 RX3 yX3_around wsX3_around) := goodIn_app (goodIn_of _ (by decide +kernel)) ggL_around_X3_around
theorem dL_around_0 : decode cL_around 0 = .ok (.aload_n 2, 1) := by decide +kernel
theorem dL_around_1 : decode cL_around 1 = .ok (.iconst 0, 1) := by decide +kernel
theorem dL_around_2 : decode cL_around 2 = .ok (.aload_n 0, 1) := by decide +kernel
theorem dL_around_3 : decode cL_around 3 = .ok (.iload_n 1, 1) := by decide +kernel
theorem dL_around_4 : decode cL_around 4 = .ok (.invokevirtual 33, 3) := by decide +kernel
theorem dL_around_7 : decode cL_around 7 = .ok (.i2l, 1) := by decide +kernel
theorem dL_around_8 : decode cL_around 8 = .ok (.lastore, 1) := by decide +kernel
theorem dL_around_9 : decode cL_around 9 = .ok (.goto 6, 3) := by decide +kernel
theorem dL_around_12 : decode cL_around 12 = .ok (.astore_n 3, 1) := by decide +kernel
theorem dL_around_13 : decode cL_around 13 = .ok (.iconst 1, 1) := by decide +kernel
theorem dL_around_14 : decode cL_around 14 = .ok (.ireturn, 1) := by decide +kernel
theorem dL_around_15 : decode cL_around 15 = .ok (.iconst 0, 1) := by decide +kernel
theorem dL_around_16 : decode cL_around 16 = .ok (.ireturn, 1) := by decide +kernel
set_option maxRecDepth 20000 in
theorem ggL_area_X3_area : GoodIn wsL_area wsX3_area := goodIn_ca (goodIn_r _ [6, 7, 8, 9, 10, 5, 11, 12, 13, 14, 15, 16, 17, 18, 19, 20, 21, 22, 23, 24, 25, 26, 27, 28, 29, 30, 31, 32, 33, 34, 35, 36, 37, 38, 39, 40, 41, 42, 43, 44, 45, 46, 47, 48, 49, 50, 51, 52, 53, 54, 55, 56, 57, 58, 59, 60, 61, 62, 63, 64, 65, 66, 67, 68, 69, 70, 71, 72, 73, 74, 75, 76, 77, 78, 79, 80, 81, 82, 83, 84, 85, 86, 87, 88, 89, 90, 91, 92, 93, 94, 95, 96, 97, 98, 99, 100, 101, 102, 103, 104, 105, 106, 107, 108, 109, 110, 111, 112, 113, 114, 115, 116, 117, 118, 119, 120, 121, 122, 123, 124, 125, 126, 127, 128, 129, 130, 131, 132, 133, 134, 135, 136, 137, 138, 139, 140, 141, 142, 143, 144, 145, 146, 147, 148, 149, 150, 151, 152, 153, 154, 155, 156, 157, 158, 159, 160, 161, 162, 163, 164, 165, 166, 167, 168, 169, 170, 171, 172, 173, 174, 175, 176, 177, 178, 179, 180, 181, 182, 183, 184, 185, 186, 187, 188, 189] (by decide +kernel) (by decide +kernel)) (goodIn_sub (fun _ h => List.mem_cons_of_mem _ (List.mem_append_right _ h)) (by decide +kernel))
set_option maxRecDepth 20000 in
theorem gL_area_X3_area : GoodIn wsL_area (wsV RL 36 RX3 yX3_area wsX3_area) := goodIn_app (goodIn_of _ (by decide +kernel)) ggL_area_X3_area
theorem dL_area_0 : decode cL_area 0 = .ok (.aload_n 2, 1) := by decide +kernel
theorem dL_area_1 : decode cL_area 1 = .ok (.iconst 0, 1) := by decide +kernel
theorem dL_area_2 : decode cL_area 2 = .ok (.aload_n 0, 1) := by decide +kernel
theorem dL_area_3 : decode cL_area 3 = .ok (.iload_n 1, 1) := by decide +kernel
theorem dL_area_4 : decode cL_area 4 = .ok (.invokevirtual 36, 3) := by decide +kernel
theorem dL_area_7 : decode cL_area 7 = .ok (.i2l, 1) := by decide +kernel
theorem dL_area_8 : decode cL_area 8 = .ok (.lastore, 1) := by decide +kernel
theorem dL_area_9 : decode cL_area 9 = .ok (.goto 6, 3) := by decide +kernel
theorem dL_area_12 : decode cL_area 12 = .ok (.astore_n 3, 1) := by decide +kernel
theorem dL_area_13 : decode cL_area 13 = .ok (.iconst 1, 1) := by decide +kernel
theorem dL_area_14 : decode cL_area 14 = .ok (.ireturn, 1) := by decide +kernel
theorem dL_area_15 : decode cL_area 15 = .ok (.iconst 0, 1) := by decide +kernel
theorem dL_area_16 : decode cL_area 16 = .ok (.ireturn, 1) := by decide +kernel
set_option maxRecDepth 20000 in
theorem ggL_border_X3_border : GoodIn wsL_border wsX3_border := goodIn_ca (goodIn_r _ [6, 7, 8, 9, 10, 5, 11, 12, 13, 14, 15, 16, 17, 18, 19, 20, 21, 22, 23, 24, 25, 26, 27, 28, 29, 30, 31, 32, 33, 34, 35, 36, 37, 38, 39, 40, 41, 42, 43, 44, 45, 46, 47, 48, 49, 50, 51, 52, 53, 54, 55, 56, 57, 58, 59, 60, 61, 62, 63, 64, 65, 66, 67, 68, 69, 70, 71, 72, 73, 74, 75, 76, 77, 78, 79, 80, 81, 82, 83, 84, 85, 86, 87, 88, 89, 90, 91, 92, 93, 94, 95, 96, 97, 98, 99, 100, 101, 102, 103, 104, 105, 106, 107, 108, 109, 110, 111, 112, 113, 114, 115, 116, 117, 118, 119, 120, 121, 122, 123, 124, 125, 126, 127, 128, 129, 130, 131, 132, 133, 134, 135, 136, 137, 138, 139, 140, 141, 142, 143, 144, 145, 146, 147, 148, 149, 150, 151, 152, 153, 154, 155, 156, 157, 158, 159, 160, 161, 162, 163, 164, 165, 166, 167, 168, 169, 170, 171, 172, 173, 174, 175, 176, 177, 178, 179, 180, 181, 182, 183, 184, 185, 186, 187, 188, 189, 190, 191, 192, 193, 194, 195, 196, 197, 198, 199, 200, 201, 202] (by decide +kernel) (by decide +kernel)) (goodIn_sub (fun _ h => List.mem_cons_of_mem _ (List.mem_append_right _ h)) (by decide +kernel))
set_option maxRecDepth 20000 in
theorem gL_border_X3_border : GoodIn wsL_border (wsV RL 39 RX3 yX3_border wsX3_border) := goodIn_app (goodIn_of _ (by decide +kernel)) ggL_border_X3_border
theorem dL_border_0 : decode cL_border 0 = .ok (.aload_n 3, 1) := by decide +kernel
theorem dL_border_1 : decode cL_border 1 = .ok (.iconst 0, 1) := by decide +kernel
theorem dL_border_2 : decode cL_border 2 = .ok (.aload_n 0, 1) := by decide +kernel
theorem dL_border_3 : decode cL_border 3 = .ok (.iload_n 1, 1) := by decide +kernel
theorem dL_border_4 : decode cL_border 4 = .ok (.iload_n 2, 1) := by decide +kernel
theorem dL_border_5 : decode cL_border 5 = .ok (.invokevirtual 39, 3) := by decide +kernel
theorem dL_border_8 : decode cL_border 8 = .ok (.i2l, 1) := by decide +kernel
theorem dL_border_9 : decode cL_border 9 = .ok (.lastore, 1) := by decide +kernel
theorem dL_border_10 : decode cL_border 10 = .ok (.goto 7, 3) := by decide +kernel
theorem dL_border_13 : decode cL_border 13 = .ok (.astore 4, 2) := by decide +kernel
theorem dL_border_15 : decode cL_border 15 = .ok (.iconst 1, 1) := by decide +kernel
theorem dL_border_16 : decode cL_border 16 = .ok (.ireturn, 1) := by decide +kernel
theorem dL_border_17 : decode cL_border 17 = .ok (.iconst 0, 1) := by decide +kernel
theorem dL_border_18 : decode cL_border 18 = .ok (.ireturn, 1) := by decide +kernel
set_option maxRecDepth 20000 in
theorem ggL_locate_X3_locate : GoodIn wsL_locate wsX3_locate := goodIn_ca (goodIn_r _ [6, 7, 8, 9, 10, 11, 5, 12, 13, 14, 15, 16, 17, 18, 19, 20, 21, 22, 23, 24, 25, 26, 27, 28, 29, 30, 31, 32, 33, 34, 35, 36, 37, 38, 39, 40, 41, 42, 43, 44, 45, 46, 47, 48, 49, 50, 51, 52, 53, 54, 55, 56, 57, 58, 59, 60, 61, 62, 63, 64, 65, 66, 67, 68, 69, 70, 71, 72, 73, 74, 75, 76, 77, 78, 79, 80, 81, 82, 83, 84, 85, 86, 87, 88, 89, 90, 91, 92, 93, 94, 95, 96, 97, 98, 99, 100, 101, 102, 103, 104, 105, 106, 107, 108, 109, 110, 111, 112, 113, 114, 115, 116, 117, 118, 119, 120, 121, 122, 123, 124, 125, 126, 127, 128, 129, 130, 131, 132, 133, 134, 135, 136, 137, 138, 139, 140, 141, 142, 143, 144, 145, 146, 147, 148, 149, 150, 151, 152, 153, 154, 155, 156, 157, 158, 159, 160, 161, 162, 163, 164, 165, 166, 167, 168, 169, 170, 171, 172, 173, 174, 175, 176, 177, 178, 179, 180, 181, 182, 183, 184, 185, 186, 187, 188, 189, 190, 191, 192, 193, 194, 195] (by decide +kernel) (by decide +kernel)) (goodIn_sub (fun _ h => List.mem_cons_of_mem _ (List.mem_append_right _ h)) (by decide +kernel))
set_option maxRecDepth 20000 in
theorem gL_locate_X3_locate : GoodIn wsL_locate (wsV RL 43 RX3 yX3_locate wsX3_locate) := goodIn_app (goodIn_of _ (by decide +kernel)) ggL_locate_X3_locate
theorem dL_locate_0 : decode cL_locate 0 = .ok (.aload_n 3, 1) := by decide +kernel
theorem dL_locate_1 : decode cL_locate 1 = .ok (.iconst 0, 1) := by decide +kernel
theorem dL_locate_2 : decode cL_locate 2 = .ok (.aload_n 0, 1) := by decide +kernel
theorem dL_locate_3 : decode cL_locate 3 = .ok (.iload_n 1, 1) := by decide +kernel
theorem dL_locate_4 : decode cL_locate 4 = .ok (.iload_n 2, 1) := by decide +kernel
theorem dL_locate_5 : decode cL_locate 5 = .ok (.invokevirtual 43, 3) := by decide +kernel
theorem dL_locate_8 : decode cL_locate 8 = .ok (.i2l, 1) := by decide +kernel
theorem dL_locate_9 : decode cL_locate 9 = .ok (.lastore, 1) := by decide +kernel
theorem dL_locate_10 : decode cL_locate 10 = .ok (.goto 7, 3) := by decide +kernel
theorem dL_locate_13 : decode cL_locate 13 = .ok (.astore 4, 2) := by decide +kernel
theorem dL_locate_15 : decode cL_locate 15 = .ok (.iconst 1, 1) := by decide +kernel
theorem dL_locate_16 : decode cL_locate 16 = .ok (.ireturn, 1) := by decide +kernel
theorem dL_locate_17 : decode cL_locate 17 = .ok (.iconst 0, 1) := by decide +kernel
theorem dL_locate_18 : decode cL_locate 18 = .ok (.ireturn, 1) := by decide +kernel
set_option maxRecDepth 20000 in
theorem ggL_above_X3_above : GoodIn wsL_above wsX3_above := goodIn_ca (goodIn_r _ [6, 7, 8, 9, 5, 10, 11, 12, 13, 14, 15, 16, 17, 18, 19, 20, 21, 22, 23, 24, 25, 26, 27, 28, 29, 30, 31, 32, 33, 34, 35, 36, 37, 38, 39, 40, 41, 42, 43, 44, 45, 46, 47, 48, 49, 50, 51, 52, 53, 54, 55, 56, 57, 58] (by decide +kernel) (by decide +kernel)) (goodIn_sub (fun _ h => List.mem_cons_of_mem _ (List.mem_append_right _ h)) (by decide +kernel))
set_option maxRecDepth 20000 in
theorem gL_above_X3_above : GoodIn wsL_above (wsV RL 46 RX3 yX3_above wsX3_above) := goodIn_app (goodIn_of _ (by decide +kernel)) ggL_above_X3_above
theorem dL_above_0 : decode cL_above 0 = .ok (.aload_n 3, 1) := by decide +kernel
theorem dL_above_1 : decode cL_above 1 = .ok (.iconst 0, 1) := by decide +kernel
theorem dL_above_2 : decode cL_above 2 = .ok (.aload_n 0, 1) := by decide +kernel
theorem dL_above_3 : decode cL_above 3 = .ok (.iload_n 1, 1) := by decide +kernel
theorem dL_above_4 : decode cL_above 4 = .ok (.iload_n 2, 1) := by decide +kernel
theorem dL_above_5 : decode cL_above 5 = .ok (.invokevirtual 46, 3) := by decide +kernel
theorem dL_above_8 : decode cL_above 8 = .ok (.i2l, 1) := by decide +kernel
theorem dL_above_9 : decode cL_above 9 = .ok (.lastore, 1) := by decide +kernel
theorem dL_above_10 : decode cL_above 10 = .ok (.goto 7, 3) := by decide +kernel
theorem dL_above_13 : decode cL_above 13 = .ok (.astore 4, 2) := by decide +kernel
theorem dL_above_15 : decode cL_above 15 = .ok (.iconst 1, 1) := by decide +kernel
theorem dL_above_16 : decode cL_above 16 = .ok (.ireturn, 1) := by decide +kernel
theorem dL_above_17 : decode cL_above 17 = .ok (.iconst 0, 1) := by decide +kernel
theorem dL_above_18 : decode cL_above 18 = .ok (.ireturn, 1) := by decide +kernel
set_option maxRecDepth 20000 in
theorem ggL_across_X3_across : GoodIn wsL_across wsX3_across := goodIn_ca (goodIn_r _ [6, 7, 8, 9, 10, 5, 11, 12, 13, 14, 15, 16, 17, 18, 19, 20, 21, 22, 23, 24, 25, 26, 27, 28, 29, 30, 31, 32, 33, 34, 35, 36, 37, 38, 39, 40, 41, 42, 43, 44, 45, 46, 47, 48, 49, 50, 51, 52, 53, 54, 55, 56, 57, 58, 59, 60, 61, 62, 63, 64, 65, 66, 67, 68, 69, 70, 71, 72, 73, 74, 75, 76, 77, 78, 79, 80, 81, 82, 83, 84, 85, 86, 87, 88, 89, 90, 91, 92, 93, 94, 95, 96, 97, 98, 99, 100, 101, 102, 103, 104, 105, 106, 107, 108, 109, 110, 111, 112, 113, 114, 115, 116, 117, 118, 119, 120, 121, 122, 123, 124, 125, 126, 127, 128, 129, 130, 131, 132, 133, 134, 135, 136, 137, 138, 139, 140, 141, 142, 143, 144, 145, 146, 147, 148, 149, 150, 151, 152, 153, 154, 155, 156, 157, 158, 159, 160, 161, 162, 163, 164, 165, 166, 167, 168, 169, 170, 171, 172, 173, 174, 175, 176, 177, 178, 179, 180, 181, 182, 183, 184, 185, 186, 187, 188, 189, 190, 191, 192, 193, 194] (by decide +kernel) (by decide +kernel)) (goodIn_sub (fun _ h => List.mem_cons_of_mem _ (List.mem_append_right _ h)) (by decide +kernel))
set_option maxRecDepth 20000 in
theorem gL_across_X3_across : GoodIn wsL_across (wsV RL 49 RX3 yX3_across wsX3_across) := goodIn_app (goodIn_of _ (by decide +kernel)) ggL_across_X3_across
theorem dL_across_0 : decode cL_across 0 = .ok (.aload_n 3, 1) := by decide +kernel
theorem dL_across_1 : decode cL_across 1 = .ok (.iconst 0, 1) := by decide +kernel
theorem dL_across_2 : decode cL_across 2 = .ok (.aload_n 0, 1) := by decide +kernel
theorem dL_across_3 : decode cL_across 3 = .ok (.iload_n 1, 1) := by decide +kernel
theorem dL_across_4 : decode cL_across 4 = .ok (.iload_n 2, 1) := by decide +kernel
theorem dL_across_5 : decode cL_across 5 = .ok (.invokevirtual 49, 3) := by decide +kernel
theorem dL_across_8 : decode cL_across 8 = .ok (.i2l, 1) := by decide +kernel
theorem dL_across_9 : decode cL_across 9 = .ok (.lastore, 1) := by decide +kernel
theorem dL_across_10 : decode cL_across 10 = .ok (.goto 7, 3) := by decide +kernel
theorem dL_across_13 : decode cL_across 13 = .ok (.astore 4, 2) := by decide +kernel
theorem dL_across_15 : decode cL_across 15 = .ok (.iconst 1, 1) := by decide +kernel
theorem dL_across_16 : decode cL_across 16 = .ok (.ireturn, 1) := by decide +kernel
theorem dL_across_17 : decode cL_across 17 = .ok (.iconst 0, 1) := by decide +kernel
theorem dL_across_18 : decode cL_across 18 = .ok (.ireturn, 1) := by decide +kernel
set_option maxRecDepth 20000 in
theorem ggL_law_X3_init : GoodIn wsL_law wsX3_init := goodIn_r _ [9, 10, 11, 12, 13, 14, 15, 16, 17, 18, 19, 20, 21, 22, 23, 24, 25, 26, 27, 28, 29, 30, 31, 32, 33, 34, 35, 36, 37, 38, 39, 40, 41, 42, 43, 44, 45, 46, 47, 48, 49, 50, 51, 6, 52, 53, 54, 55, 56, 57, 58, 59, 60, 61, 62, 614, 615, 616, 617, 618, 619, 620, 621, 594, 595, 596, 597, 622, 623, 624, 625, 626, 627, 628, 629, 630, 631, 632, 633, 634, 635, 636] (by decide +kernel) (by decide +kernel)
set_option maxRecDepth 20000 in
theorem gL_law_X3_init : GoodIn wsL_law (wsX3_init) := ggL_law_X3_init
set_option maxRecDepth 20000 in
theorem ggL_law_X4_init : GoodIn wsL_law wsX4_init := goodIn_r _ [65, 66, 11, 12, 60, 67, 31, 68, 69, 70, 71, 72, 73, 6, 74, 75, 76, 77, 598, 599, 600, 601, 602, 603, 604, 605, 606, 607, 608, 609, 610, 611, 612, 613] (by decide +kernel) (by decide +kernel)
set_option maxRecDepth 20000 in
theorem gL_law_X4_init : GoodIn wsL_law (wsX4_init) := ggL_law_X4_init
set_option maxRecDepth 20000 in
theorem ggL_law_L_add : GoodIn wsL_law wsL_add := goodIn_ca (goodIn_ca (goodIn_r _ [81, 82, 83, 84, 85, 86, 2, 87, 88, 89, 90, 91, 20, 21, 92, 93, 94, 95, 96, 97, 43, 98, 61, 99, 100, 101, 102, 58, 59, 103, 104, 105, 106, 107, 108, 109, 110, 111, 112, 113, 114, 115, 116, 117, 118, 119, 120, 121, 122, 123, 124, 125, 126, 127, 128, 129, 130, 131, 132, 133, 134, 135, 136, 137, 138, 62, 594, 595, 596, 597, 633, 634, 635, 636] (by decide +kernel) (by decide +kernel)) (goodIn_sub (fun _ h => List.mem_append_left _ (List.mem_append_left _ (List.mem_append_right _ h))) (by decide +kernel))) (goodIn_sub (fun _ h => List.mem_append_left _ (List.mem_append_right _ h)) (by decide +kernel))
set_option maxRecDepth 20000 in
theorem gL_law_L_add : GoodIn wsL_law (va_wsS RL 56 yL_add wsL_add) := goodIn_app (goodIn_of _ (by decide +kernel)) ggL_law_L_add
set_option maxRecDepth 20000 in
theorem ggL_law_X4_add : GoodIn wsL_law wsX4_add := goodIn_r _ [142, 67, 68, 69, 143, 144, 145, 5, 146, 147, 148, 149, 150, 151, 152, 153, 154, 155, 156, 157, 158, 159, 160, 161, 162, 163, 164, 165, 166, 167, 168, 598, 599, 600, 601, 602, 603, 604, 605, 606, 607, 608, 609, 610, 611, 612, 613] (by decide +kernel) (by decide +kernel)
set_option maxRecDepth 20000 in
theorem gL_law_X4_add : GoodIn wsL_law (wsV RL 61 RX4 yX4_add wsX4_add) := goodIn_app (goodIn_of _ (by decide +kernel)) ggL_law_X4_add
set_option maxRecDepth 20000 in
theorem ggL_law_X4_thrown : GoodIn wsL_law wsX4_thrown := goodIn_r _ [172, 151, 598, 599, 600, 601, 602, 603, 604, 605, 606, 607, 608, 609, 610, 611, 612, 613] (by decide +kernel) (by decide +kernel)
set_option maxRecDepth 20000 in
theorem gL_law_X4_thrown : GoodIn wsL_law (wsV RL 62 RX4 yX4_thrown wsX4_thrown) := goodIn_app (goodIn_of _ (by decide +kernel)) ggL_law_X4_thrown
set_option maxRecDepth 20000 in
theorem ggL_law_X3_remove : GoodIn wsL_law wsX3_remove := goodIn_r _ [176, 20, 21, 177, 178, 179, 43, 180, 61, 181, 182, 183, 184, 62, 594, 595, 596, 597, 633, 634, 635, 636] (by decide +kernel) (by decide +kernel)
set_option maxRecDepth 20000 in
theorem gL_law_X3_remove : GoodIn wsL_law (wsV RL 66 RX3 yX3_remove wsX3_remove) := goodIn_app (goodIn_of _ (by decide +kernel)) ggL_law_X3_remove
set_option maxRecDepth 20000 in
theorem ggL_law_X4_remove : GoodIn wsL_law wsX4_remove := goodIn_r _ [188, 151, 67, 143, 598, 599, 600, 601, 602, 603, 604, 605, 606, 607, 608, 609, 610, 611, 612, 613] (by decide +kernel) (by decide +kernel)
set_option maxRecDepth 20000 in
theorem gL_law_X4_remove : GoodIn wsL_law (wsV RL 70 RX4 yX4_remove wsX4_remove) := goodIn_app (goodIn_of _ (by decide +kernel)) ggL_law_X4_remove
set_option maxRecDepth 20000 in
theorem ggL_law_X3_clear : GoodIn wsL_law wsX3_clear := goodIn_r _ [192, 20, 193, 21, 194, 195, 196, 43, 197, 61, 62, 594, 595, 596, 597, 633, 634, 635, 636] (by decide +kernel) (by decide +kernel)
set_option maxRecDepth 20000 in
theorem gL_law_X3_clear : GoodIn wsL_law (wsV RL 71 RX3 yX3_clear wsX3_clear) := goodIn_app (goodIn_of _ (by decide +kernel)) ggL_law_X3_clear
set_option maxRecDepth 20000 in
theorem ggL_law_X4_clear : GoodIn wsL_law wsX4_clear := goodIn_r _ [201, 151, 67, 143, 598, 599, 600, 601, 602, 603, 604, 605, 606, 607, 608, 609, 610, 611, 612, 613] (by decide +kernel) (by decide +kernel)
set_option maxRecDepth 20000 in
theorem gL_law_X4_clear : GoodIn wsL_law (wsV RL 74 RX4 yX4_clear wsX4_clear) := goodIn_app (goodIn_of _ (by decide +kernel)) ggL_law_X4_clear
set_option maxRecDepth 20000 in
theorem ggL_law_X3_count : GoodIn wsL_law wsX3_count := goodIn_r _ [205, 20, 193, 18, 16, 206, 207, 208, 209, 210, 211, 2, 212, 21, 213, 214, 215, 27, 216, 46, 44, 217, 218, 219, 220, 221, 45, 222, 223, 224, 225, 226, 43, 227, 61, 58, 59, 228, 229, 230, 231, 232, 233, 234, 235, 236, 237, 238, 239, 240, 241, 242, 243, 244, 245, 246, 47, 247, 248, 249, 250, 251, 252, 253, 254, 255, 256, 257, 258, 259, 260, 261, 49, 48, 262, 263, 264, 265, 50, 54, 266, 267, 268, 269, 270, 271, 272, 273, 51, 52, 274, 275, 276, 277, 278, 279, 280, 15, 281, 28, 282, 32, 35, 34, 283, 284, 285, 286, 287, 288, 30, 289, 290, 291, 292, 293, 294, 295, 296, 297, 298, 53, 299, 300, 301, 302, 303, 304, 305, 306, 307, 308, 309, 310, 115, 116, 117, 118, 311, 312, 313, 314, 315, 33, 37, 316, 317, 318, 319, 320, 321, 322, 323, 324, 325, 326, 327, 328, 329, 330, 594, 595, 596, 597, 633, 634, 635, 636, 614, 615, 616, 617, 618, 619, 620, 621, 622, 623, 624, 625, 626, 627, 628, 629, 630, 631, 632] (by decide +kernel) (by decide +kernel)
set_option maxRecDepth 20000 in
theorem gL_law_X3_count : GoodIn wsL_law (wsV RL 75 RX3 yX3_count wsX3_count) := goodIn_app (goodIn_of _ (by decide +kernel)) ggL_law_X3_count
set_option maxRecDepth 20000 in
theorem ggL_law_X4_count : GoodIn wsL_law wsX4_count := goodIn_r _ [334, 151, 335, 336, 337, 67, 68, 69, 338, 339, 340, 5, 341, 143, 71, 72, 70, 342, 343, 344, 345, 346, 347, 348, 349, 350, 351, 352, 353, 354, 355, 356, 357, 358, 359, 360, 361, 362, 363, 364, 365, 366, 367, 368, 73, 74, 369, 370, 371, 372, 76, 75, 373, 374, 375, 376, 377, 378, 379, 380, 163, 164, 165, 166, 167, 168, 381, 382, 383, 384, 598, 599, 600, 601, 602, 603, 604, 605, 606, 607, 608, 609, 610, 611, 612, 613] (by decide +kernel) (by decide +kernel)
set_option maxRecDepth 20000 in
theorem gL_law_X4_count : GoodIn wsL_law (wsV RL 78 RX4 yX4_count wsX4_count) := goodIn_app (goodIn_of _ (by decide +kernel)) ggL_law_X4_count
set_option maxRecDepth 20000 in
theorem ggL_law_L_begins : GoodIn wsL_law wsL_begins := goodIn_ca (goodIn_r _ [387, 388, 389, 390, 391, 2, 392, 20, 393, 394, 395, 396, 397, 398, 399, 400, 177, 178, 179, 43, 180, 61, 594, 595, 596, 597, 633, 634, 635, 636] (by decide +kernel) (by decide +kernel)) (goodIn_sub (fun _ h => List.mem_append_right _ h) (by decide +kernel))
set_option maxRecDepth 20000 in
theorem gL_law_L_begins : GoodIn wsL_law (va_wsS RL 79 yL_begins wsL_begins) := goodIn_app (goodIn_of _ (by decide +kernel)) ggL_law_L_begins
set_option maxRecDepth 20000 in
theorem ggL_law_X4_begins : GoodIn wsL_law wsX4_begins := goodIn_r _ [404, 69, 68, 405, 406, 407, 5, 408, 67, 147, 148, 149, 150, 151, 598, 599, 600, 601, 602, 603, 604, 605, 606, 607, 608, 609, 610, 611, 612, 613] (by decide +kernel) (by decide +kernel)
set_option maxRecDepth 20000 in
theorem gL_law_X4_begins : GoodIn wsL_law (wsV RL 82 RX4 yX4_begins wsX4_begins) := goodIn_app (goodIn_of _ (by decide +kernel)) ggL_law_X4_begins
set_option maxRecDepth 20000 in
theorem ggL_law_L_next : GoodIn wsL_law wsL_next := goodIn_ca (goodIn_r _ [411, 388, 412, 413, 414, 2, 415, 18, 416, 395, 396, 397, 398, 399, 400, 20, 177, 178, 179, 43, 180, 61, 209, 210, 211, 212, 21, 16, 213, 214, 215, 27, 216, 46, 44, 217, 218, 219, 220, 221, 45, 222, 223, 224, 225, 226, 227, 58, 59, 228, 229, 230, 231, 232, 233, 234, 235, 236, 237, 238, 239, 240, 241, 242, 243, 244, 245, 246, 47, 247, 248, 249, 250, 251, 252, 253, 254, 255, 256, 257, 258, 259, 260, 261, 49, 48, 262, 263, 264, 265, 50, 54, 266, 267, 268, 269, 270, 271, 272, 273, 51, 52, 274, 275, 276, 277, 278, 279, 280, 15, 281, 28, 282, 32, 35, 34, 283, 284, 285, 286, 287, 288, 30, 289, 290, 291, 292, 293, 294, 295, 296, 297, 298, 53, 299, 300, 301, 302, 303, 304, 305, 306, 307, 308, 309, 310, 115, 116, 117, 118, 311, 312, 313, 314, 315, 33, 37, 316, 317, 318, 319, 320, 321, 322, 594, 595, 596, 597, 622, 623, 624, 625, 626, 627, 628, 629, 630, 631, 632, 633, 634, 635, 636, 614, 615, 616, 617, 618, 619, 620, 621] (by decide +kernel) (by decide +kernel)) (goodIn_sub (fun _ h => List.mem_append_right _ h) (by decide +kernel))
set_option maxRecDepth 20000 in
theorem gL_law_L_next : GoodIn wsL_law (va_wsS RL 83 yL_next wsL_next) := goodIn_app (goodIn_of _ (by decide +kernel)) ggL_law_L_next
set_option maxRecDepth 20000 in
theorem ggL_law_X4_next : GoodIn wsL_law wsX4_next := goodIn_r _ [420, 70, 405, 406, 407, 5, 408, 67, 147, 148, 149, 150, 151, 338, 339, 340, 341, 143, 336, 337, 71, 72, 342, 343, 344, 345, 68, 69, 346, 347, 348, 349, 350, 351, 352, 353, 354, 355, 356, 357, 358, 359, 360, 361, 362, 363, 364, 365, 366, 367, 368, 73, 74, 369, 370, 371, 372, 335, 76, 75, 373, 374, 375, 376, 377, 378, 379, 380, 163, 164, 165, 166, 167, 168, 598, 599, 600, 601, 602, 603, 604, 605, 606, 607, 608, 609, 610, 611, 612, 613] (by decide +kernel) (by decide +kernel)
set_option maxRecDepth 20000 in
theorem gL_law_X4_next : GoodIn wsL_law (wsV RL 86 RX4 yX4_next wsX4_next) := goodIn_app (goodIn_of _ (by decide +kernel)) ggL_law_X4_next
set_option maxRecDepth 20000 in
theorem ggL_law_L_face : GoodIn wsL_law wsL_face := goodIn_ca (goodIn_r _ [423, 388, 424, 425, 426, 2, 427, 16, 428, 395, 396, 397, 398, 399, 400, 20, 177, 178, 179, 43, 180, 61, 209, 210, 211, 212, 21, 18, 213, 214, 215, 27, 216, 46, 44, 217, 218, 219, 220, 221, 45, 222, 223, 224, 225, 226, 227, 58, 59, 228, 229, 230, 231, 232, 233, 234, 235, 236, 237, 238, 239, 240, 241, 242, 243, 244, 245, 246, 47, 247, 248, 249, 250, 251, 252, 253, 254, 255, 256, 257, 258, 259, 260, 261, 49, 48, 262, 263, 264, 265, 50, 54, 266, 267, 268, 269, 270, 271, 272, 273, 51, 52, 274, 275, 276, 277, 278, 279, 280, 15, 281, 28, 282, 32, 35, 34, 283, 284, 285, 286, 287, 288, 30, 289, 290, 291, 292, 293, 294, 295, 296, 297, 298, 53, 299, 300, 301, 302, 303, 304, 305, 306, 307, 308, 309, 310, 115, 116, 117, 118, 311, 312, 313, 314, 315, 33, 37, 316, 317, 318, 319, 320, 321, 322, 594, 595, 596, 597, 614, 615, 616, 617, 618, 619, 620, 621, 633, 634, 635, 636, 622, 623, 624, 625, 626, 627, 628, 629, 630, 631, 632] (by decide +kernel) (by decide +kernel)) (goodIn_sub (fun _ h => List.mem_append_right _ h) (by decide +kernel))
set_option maxRecDepth 20000 in
theorem gL_law_L_face : GoodIn wsL_law (va_wsS RL 87 yL_face wsL_face) := goodIn_app (goodIn_of _ (by decide +kernel)) ggL_law_L_face
set_option maxRecDepth 20000 in
theorem ggL_law_X4_face : GoodIn wsL_law wsX4_face := goodIn_r _ [432, 405, 406, 407, 5, 408, 67, 147, 148, 149, 150, 151, 338, 339, 340, 341, 143, 336, 337, 71, 72, 70, 342, 343, 344, 345, 68, 69, 346, 347, 348, 349, 350, 351, 352, 353, 354, 355, 356, 357, 358, 359, 360, 361, 362, 363, 364, 365, 366, 367, 368, 73, 74, 369, 370, 371, 372, 335, 76, 75, 373, 374, 375, 376, 377, 378, 379, 380, 163, 164, 165, 166, 167, 168, 381, 382, 383, 384, 598, 599, 600, 601, 602, 603, 604, 605, 606, 607, 608, 609, 610, 611, 612, 613] (by decide +kernel) (by decide +kernel)
set_option maxRecDepth 20000 in
theorem gL_law_X4_face : GoodIn wsL_law (wsV RL 89 RX4 yX4_face wsX4_face) := goodIn_app (goodIn_of _ (by decide +kernel)) ggL_law_X4_face
set_option maxRecDepth 20000 in
theorem ggL_law_L_piece : GoodIn wsL_law wsL_piece := goodIn_ca (goodIn_r _ [435, 388, 436, 437, 438, 2, 439, 18, 440, 395, 396, 397, 398, 399, 400, 20, 177, 178, 179, 43, 180, 61, 209, 210, 211, 212, 21, 16, 213, 214, 215, 27, 216, 46, 44, 217, 218, 219, 220, 221, 45, 222, 223, 224, 225, 226, 227, 58, 59, 228, 229, 230, 231, 232, 233, 234, 235, 236, 237, 238, 239, 240, 241, 242, 243, 244, 245, 246, 47, 247, 248, 249, 250, 251, 252, 253, 254, 255, 256, 257, 258, 259, 260, 261, 49, 48, 262, 263, 264, 265, 50, 54, 266, 267, 268, 269, 270, 271, 272, 273, 51, 52, 274, 275, 276, 277, 278, 279, 280, 15, 281, 28, 282, 32, 35, 34, 283, 284, 285, 286, 287, 288, 30, 289, 290, 291, 292, 293, 294, 295, 296, 297, 298, 53, 299, 300, 301, 302, 303, 304, 305, 306, 307, 308, 309, 310, 115, 116, 117, 118, 311, 312, 313, 314, 315, 33, 37, 316, 317, 318, 319, 320, 321, 322, 594, 595, 596, 597, 622, 623, 624, 625, 626, 627, 628, 629, 630, 631, 632, 633, 634, 635, 636, 614, 615, 616, 617, 618, 619, 620, 621] (by decide +kernel) (by decide +kernel)) (goodIn_sub (fun _ h => List.mem_append_right _ h) (by decide +kernel))
set_option maxRecDepth 20000 in
theorem gL_law_L_piece : GoodIn wsL_law (va_wsS RL 90 yL_piece wsL_piece) := goodIn_app (goodIn_of _ (by decide +kernel)) ggL_law_L_piece
set_option maxRecDepth 20000 in
theorem ggL_law_X4_piece : GoodIn wsL_law wsX4_piece := goodIn_r _ [444, 71, 405, 406, 407, 5, 408, 67, 147, 148, 149, 150, 151, 338, 339, 340, 341, 143, 336, 337, 72, 70, 342, 343, 344, 345, 68, 69, 346, 347, 348, 349, 350, 351, 352, 353, 354, 355, 356, 357, 358, 359, 360, 361, 362, 363, 364, 365, 366, 367, 368, 73, 74, 369, 370, 371, 372, 335, 76, 75, 373, 374, 375, 376, 377, 378, 379, 380, 163, 164, 165, 166, 167, 168, 598, 599, 600, 601, 602, 603, 604, 605, 606, 607, 608, 609, 610, 611, 612, 613] (by decide +kernel) (by decide +kernel)
set_option maxRecDepth 20000 in
theorem gL_law_X4_piece : GoodIn wsL_law (wsV RL 92 RX4 yX4_piece wsX4_piece) := goodIn_app (goodIn_of _ (by decide +kernel)) ggL_law_X4_piece
set_option maxRecDepth 20000 in
theorem ggL_law_L_around : GoodIn wsL_law wsL_around := goodIn_ca (goodIn_r _ [447, 388, 448, 449, 450, 2, 451, 399, 400, 18, 207, 16, 452, 209, 210, 211, 212, 21, 213, 214, 215, 27, 216, 46, 44, 217, 218, 219, 220, 221, 45, 222, 223, 224, 225, 226, 43, 227, 61, 58, 59, 228, 229, 230, 231, 232, 233, 234, 235, 236, 237, 238, 239, 240, 241, 242, 243, 244, 245, 246, 47, 247, 248, 249, 250, 251, 252, 253, 254, 255, 256, 257, 258, 259, 260, 261, 49, 48, 262, 263, 264, 265, 50, 54, 266, 267, 268, 269, 270, 271, 272, 273, 51, 52, 274, 275, 276, 277, 278, 279, 280, 15, 281, 28, 282, 32, 35, 34, 283, 284, 285, 286, 287, 288, 30, 289, 290, 291, 292, 293, 294, 295, 296, 297, 298, 53, 299, 300, 301, 302, 303, 304, 305, 306, 307, 308, 309, 310, 115, 116, 117, 118, 311, 312, 313, 314, 315, 33, 37, 316, 317, 318, 319, 320, 321, 322, 594, 595, 596, 597, 622, 623, 624, 625, 626, 627, 628, 629, 630, 631, 632, 614, 615, 616, 617, 618, 619, 620, 621, 633, 634, 635, 636] (by decide +kernel) (by decide +kernel)) (goodIn_sub (fun _ h => List.mem_append_right _ h) (by decide +kernel))
set_option maxRecDepth 20000 in
theorem gL_law_L_around : GoodIn wsL_law (va_wsS RL 93 yL_around wsL_around) := goodIn_app (goodIn_of _ (by decide +kernel)) ggL_law_L_around
set_option maxRecDepth 20000 in
theorem ggL_law_X4_around : GoodIn wsL_law wsX4_around := goodIn_r _ [456, 336, 75, 338, 339, 340, 5, 341, 143, 337, 71, 72, 67, 70, 342, 343, 344, 345, 68, 69, 346, 347, 348, 349, 350, 351, 352, 353, 354, 355, 356, 357, 358, 359, 360, 361, 362, 363, 364, 365, 366, 367, 368, 73, 74, 369, 370, 371, 372, 335, 76, 373, 374, 375, 376, 377, 378, 379, 380, 163, 164, 165, 166, 167, 168, 147, 148, 149, 150, 151, 457, 458, 459, 460, 598, 599, 600, 601, 602, 603, 604, 605, 606, 607, 608, 609, 610, 611, 612, 613] (by decide +kernel) (by decide +kernel)
set_option maxRecDepth 20000 in
theorem gL_law_X4_around : GoodIn wsL_law (wsV RL 95 RX4 yX4_around wsX4_around) := goodIn_app (goodIn_of _ (by decide +kernel)) ggL_law_X4_around
set_option maxRecDepth 20000 in
theorem ggL_law_L_area : GoodIn wsL_law wsL_area := goodIn_ca (goodIn_r _ [463, 388, 464, 465, 466, 2, 467, 16, 209, 210, 211, 212, 21, 18, 213, 214, 215, 27, 216, 46, 44, 217, 218, 219, 220, 221, 45, 222, 223, 224, 225, 226, 43, 227, 61, 58, 59, 228, 229, 230, 231, 232, 233, 234, 235, 236, 237, 238, 239, 240, 241, 242, 243, 244, 245, 246, 47, 247, 248, 249, 250, 251, 252, 253, 254, 255, 256, 257, 258, 259, 260, 261, 49, 48, 262, 263, 264, 265, 50, 54, 266, 267, 268, 269, 270, 271, 272, 273, 51, 52, 274, 275, 276, 277, 278, 279, 280, 15, 281, 28, 282, 32, 35, 34, 283, 284, 285, 286, 287, 288, 30, 289, 290, 291, 292, 293, 294, 295, 296, 297, 298, 53, 299, 300, 301, 302, 303, 304, 305, 306, 307, 308, 309, 310, 115, 116, 117, 118, 311, 312, 313, 314, 315, 33, 37, 316, 317, 318, 319, 320, 321, 322, 468, 469, 470, 471, 399, 400, 206, 472, 473, 474, 475, 594, 595, 596, 597, 622, 623, 624, 625, 626, 627, 628, 629, 630, 631, 632, 633, 634, 635, 636, 614, 615, 616, 617, 618, 619, 620, 621] (by decide +kernel) (by decide +kernel)) (goodIn_sub (fun _ h => List.mem_append_right _ h) (by decide +kernel))
set_option maxRecDepth 20000 in
theorem gL_law_L_area : GoodIn wsL_law (va_wsS RL 96 yL_area wsL_area) := goodIn_app (goodIn_of _ (by decide +kernel)) ggL_law_L_area
set_option maxRecDepth 20000 in
theorem ggL_law_X4_area : GoodIn wsL_law wsX4_area := goodIn_r _ [479, 337, 75, 74, 480, 481, 482, 5, 483, 335, 338, 339, 340, 341, 143, 336, 71, 72, 67, 70, 342, 343, 344, 345, 68, 69, 346, 347, 348, 349, 350, 351, 352, 353, 354, 355, 356, 357, 358, 359, 360, 361, 362, 363, 364, 365, 366, 367, 368, 73, 369, 370, 371, 372, 76, 373, 374, 375, 376, 377, 378, 379, 380, 163, 164, 165, 166, 167, 168, 147, 148, 149, 150, 151, 598, 599, 600, 601, 602, 603, 604, 605, 606, 607, 608, 609, 610, 611, 612, 613] (by decide +kernel) (by decide +kernel)
set_option maxRecDepth 20000 in
theorem gL_law_X4_area : GoodIn wsL_law (wsV RL 98 RX4 yX4_area wsX4_area) := goodIn_app (goodIn_of _ (by decide +kernel)) ggL_law_X4_area
set_option maxRecDepth 20000 in
theorem ggL_law_L_border : GoodIn wsL_law wsL_border := goodIn_ca (goodIn_r _ [486, 388, 487, 488, 489, 2, 490, 16, 209, 210, 211, 212, 21, 18, 213, 214, 215, 27, 216, 46, 44, 217, 218, 219, 220, 221, 45, 222, 223, 224, 225, 226, 43, 227, 61, 58, 59, 228, 229, 230, 231, 232, 233, 234, 235, 236, 237, 238, 239, 240, 241, 242, 243, 244, 245, 246, 47, 247, 248, 249, 250, 251, 252, 253, 254, 255, 256, 257, 258, 259, 260, 261, 49, 48, 262, 263, 264, 265, 50, 54, 266, 267, 268, 269, 270, 271, 272, 273, 51, 52, 274, 275, 276, 277, 278, 279, 280, 15, 281, 28, 282, 32, 35, 34, 283, 284, 285, 286, 287, 288, 30, 289, 290, 291, 292, 293, 294, 295, 296, 297, 298, 53, 299, 300, 301, 302, 303, 304, 305, 306, 307, 308, 309, 310, 115, 116, 117, 118, 311, 312, 313, 314, 315, 33, 37, 316, 317, 318, 319, 320, 321, 322, 468, 469, 470, 471, 399, 400, 206, 491, 492, 493, 494, 495, 496, 497, 498, 499, 500, 501, 502, 503, 504, 505, 506, 507, 594, 595, 596, 597, 622, 623, 624, 625, 626, 627, 628, 629, 630, 631, 632, 633, 634, 635, 636, 614, 615, 616, 617, 618, 619, 620, 621] (by decide +kernel) (by decide +kernel)) (goodIn_sub (fun _ h => List.mem_append_right _ h) (by decide +kernel))
set_option maxRecDepth 20000 in
theorem gL_law_L_border : GoodIn wsL_law (va_wsS RL 99 yL_border wsL_border) := goodIn_app (goodIn_of _ (by decide +kernel)) ggL_law_L_border
set_option maxRecDepth 20000 in
theorem ggL_law_X4_border : GoodIn wsL_law wsX4_border := goodIn_r _ [511, 337, 75, 74, 67, 480, 481, 482, 5, 483, 335, 338, 339, 340, 341, 143, 336, 71, 72, 70, 342, 343, 344, 345, 68, 69, 346, 347, 348, 349, 350, 351, 352, 353, 354, 355, 356, 357, 358, 359, 360, 361, 362, 363, 364, 365, 366, 367, 368, 73, 369, 370, 371, 372, 76, 373, 374, 375, 376, 377, 378, 379, 380, 163, 164, 165, 166, 167, 168, 147, 148, 149, 150, 151, 381, 382, 383, 384, 598, 599, 600, 601, 602, 603, 604, 605, 606, 607, 608, 609, 610, 611, 612, 613] (by decide +kernel) (by decide +kernel)
set_option maxRecDepth 20000 in
theorem gL_law_X4_border : GoodIn wsL_law (wsV RL 102 RX4 yX4_border wsX4_border) := goodIn_app (goodIn_of _ (by decide +kernel)) ggL_law_X4_border
set_option maxRecDepth 20000 in
theorem ggL_law_L_locate : GoodIn wsL_law wsL_locate := goodIn_ca (goodIn_r _ [514, 82, 515, 516, 517, 2, 518, 20, 16, 18, 92, 93, 94, 88, 89, 209, 210, 211, 212, 21, 213, 214, 215, 27, 216, 46, 44, 217, 218, 219, 220, 221, 45, 222, 223, 224, 225, 226, 43, 227, 61, 58, 59, 228, 229, 230, 231, 232, 233, 234, 235, 236, 237, 238, 239, 240, 241, 242, 243, 244, 245, 246, 47, 247, 248, 249, 250, 251, 252, 253, 254, 255, 256, 257, 258, 259, 260, 261, 49, 48, 262, 263, 264, 265, 50, 54, 266, 267, 268, 269, 270, 271, 272, 273, 51, 52, 274, 275, 276, 277, 278, 279, 280, 15, 281, 28, 282, 32, 35, 34, 283, 284, 285, 286, 287, 288, 30, 289, 290, 291, 292, 293, 294, 295, 296, 297, 298, 53, 299, 300, 301, 302, 303, 304, 305, 306, 307, 308, 309, 310, 115, 116, 117, 118, 311, 312, 313, 314, 315, 33, 37, 316, 317, 318, 319, 320, 321, 322, 519, 520, 521, 522, 523, 111, 112, 113, 114, 524, 525, 594, 595, 596, 597, 622, 623, 624, 625, 626, 627, 628, 629, 630, 631, 632, 633, 634, 635, 636, 614, 615, 616, 617, 618, 619, 620, 621] (by decide +kernel) (by decide +kernel)) (goodIn_sub (fun _ h => List.mem_append_left _ (List.mem_append_left _ (List.mem_append_right _ h))) (by decide +kernel))
set_option maxRecDepth 20000 in
theorem gL_law_L_locate : GoodIn wsL_law (va_wsS RL 103 yL_locate wsL_locate) := goodIn_app (goodIn_of _ (by decide +kernel)) ggL_law_L_locate
set_option maxRecDepth 20000 in
theorem ggL_law_X4_locate : GoodIn wsL_law wsX4_locate := goodIn_r _ [529, 67, 68, 69, 75, 144, 145, 5, 146, 147, 148, 149, 150, 151, 338, 339, 340, 341, 143, 336, 337, 71, 72, 70, 342, 343, 344, 345, 346, 347, 348, 349, 350, 351, 352, 353, 354, 355, 356, 357, 358, 359, 360, 361, 362, 363, 364, 365, 366, 367, 368, 73, 74, 369, 370, 371, 372, 335, 76, 373, 374, 375, 376, 377, 378, 379, 380, 163, 164, 165, 166, 167, 168, 160, 161, 162, 598, 599, 600, 601, 602, 603, 604, 605, 606, 607, 608, 609, 610, 611, 612, 613] (by decide +kernel) (by decide +kernel)
set_option maxRecDepth 20000 in
theorem gL_law_X4_locate : GoodIn wsL_law (wsV RL 105 RX4 yX4_locate wsX4_locate) := goodIn_app (goodIn_of _ (by decide +kernel)) ggL_law_X4_locate
set_option maxRecDepth 20000 in
theorem ggL_law_L_above : GoodIn wsL_law wsL_above := goodIn_ca (goodIn_r _ [532, 82, 533, 534, 535, 2, 536, 20, 92, 93, 94, 88, 89, 537, 538, 539, 43, 540, 61, 541, 542, 543, 544, 58, 59, 545, 252, 253, 254, 307, 308, 309, 310, 115, 116, 117, 118, 546, 547, 548, 549, 550, 256, 257, 551, 552, 553, 554, 555, 556, 557, 594, 595, 596, 597, 633, 634, 635, 636] (by decide +kernel) (by decide +kernel)) (goodIn_sub (fun _ h => List.mem_append_left _ (List.mem_append_left _ (List.mem_append_right _ h))) (by decide +kernel))
set_option maxRecDepth 20000 in
theorem gL_law_L_above : GoodIn wsL_law (va_wsS RL 106 yL_above wsL_above) := goodIn_app (goodIn_of _ (by decide +kernel)) ggL_law_L_above
set_option maxRecDepth 20000 in
theorem ggL_law_X4_above : GoodIn wsL_law wsX4_above := goodIn_r _ [561, 67, 144, 145, 5, 146, 147, 148, 149, 150, 151, 562, 563, 564, 565, 68, 566, 567, 568, 569, 69, 570, 346, 347, 348, 571, 572, 573, 574, 598, 599, 600, 601, 602, 603, 604, 605, 606, 607, 608, 609, 610, 611, 612, 613] (by decide +kernel) (by decide +kernel)
set_option maxRecDepth 20000 in
theorem gL_law_X4_above : GoodIn wsL_law (wsV RL 108 RX4 yX4_above wsX4_above) := goodIn_app (goodIn_of _ (by decide +kernel)) ggL_law_X4_above
set_option maxRecDepth 20000 in
theorem ggL_law_L_across : GoodIn wsL_law wsL_across := goodIn_ca (goodIn_r _ [577, 388, 578, 579, 580, 2, 581, 16, 209, 210, 211, 212, 21, 18, 213, 214, 215, 27, 216, 46, 44, 217, 218, 219, 220, 221, 45, 222, 223, 224, 225, 226, 43, 227, 61, 58, 59, 228, 229, 230, 231, 232, 233, 234, 235, 236, 237, 238, 239, 240, 241, 242, 243, 244, 245, 246, 47, 247, 248, 249, 250, 251, 252, 253, 254, 255, 256, 257, 258, 259, 260, 261, 49, 48, 262, 263, 264, 265, 50, 54, 266, 267, 268, 269, 270, 271, 272, 273, 51, 52, 274, 275, 276, 277, 278, 279, 280, 15, 281, 28, 282, 32, 35, 34, 283, 284, 285, 286, 287, 288, 30, 289, 290, 291, 292, 293, 294, 295, 296, 297, 298, 53, 299, 300, 301, 302, 303, 304, 305, 306, 307, 308, 309, 310, 115, 116, 117, 118, 311, 312, 313, 314, 315, 33, 37, 316, 317, 318, 319, 320, 321, 322, 468, 469, 470, 471, 399, 400, 206, 582, 583, 584, 585, 36, 586, 587, 588, 589, 594, 595, 596, 597, 622, 623, 624, 625, 626, 627, 628, 629, 630, 631, 632, 633, 634, 635, 636, 614, 615, 616, 617, 618, 619, 620, 621] (by decide +kernel) (by decide +kernel)) (goodIn_sub (fun _ h => List.mem_append_right _ h) (by decide +kernel))
set_option maxRecDepth 20000 in
theorem gL_law_L_across : GoodIn wsL_law (va_wsS RL 109 yL_across wsL_across) := goodIn_app (goodIn_of _ (by decide +kernel)) ggL_law_L_across
set_option maxRecDepth 20000 in
theorem ggL_law_X4_across : GoodIn wsL_law wsX4_across := goodIn_r _ [593, 335, 77, 67, 480, 481, 482, 5, 483, 338, 339, 340, 341, 143, 336, 337, 71, 72, 70, 342, 343, 344, 345, 68, 69, 346, 347, 348, 349, 350, 351, 352, 353, 354, 355, 356, 357, 358, 359, 360, 361, 362, 363, 364, 365, 366, 367, 368, 73, 74, 369, 370, 371, 372, 76, 75, 373, 374, 375, 376, 377, 378, 379, 380, 163, 164, 165, 166, 167, 168, 147, 148, 149, 150, 151, 381, 382, 383, 384, 598, 599, 600, 601, 602, 603, 604, 605, 606, 607, 608, 609, 610, 611, 612, 613] (by decide +kernel) (by decide +kernel)
set_option maxRecDepth 20000 in
theorem gL_law_X4_across : GoodIn wsL_law (wsV RL 111 RX4 yX4_across wsX4_across) := goodIn_app (goodIn_of _ (by decide +kernel)) ggL_law_X4_across
theorem dL_law_0 : decode cL_law 0 = .ok (.new 8, 3) := by decide +kernel
theorem dL_law_3 : decode cL_law 3 = .ok (.dup, 1) := by decide +kernel
theorem dL_law_4 : decode cL_law 4 = .ok (.invokespecial 52, 3) := by decide +kernel
theorem dL_law_7 : decode cL_law 7 = .ok (.astore_n 1, 1) := by decide +kernel
theorem dL_law_8 : decode cL_law 8 = .ok (.new 53, 3) := by decide +kernel
theorem dL_law_11 : decode cL_law 11 = .ok (.dup, 1) := by decide +kernel
theorem dL_law_12 : decode cL_law 12 = .ok (.invokespecial 55, 3) := by decide +kernel
theorem dL_law_15 : decode cL_law 15 = .ok (.astore_n 2, 1) := by decide +kernel
theorem dL_law_16 : decode cL_law 16 = .ok (.iconst 1, 1) := by decide +kernel
theorem dL_law_17 : decode cL_law 17 = .ok (.newarray .long, 2) := by decide +kernel
theorem dL_law_19 : decode cL_law 19 = .ok (.astore_n 3, 1) := by decide +kernel
theorem dL_law_20 : decode cL_law 20 = .ok (.iconst 0, 1) := by decide +kernel
theorem dL_law_21 : decode cL_law 21 = .ok (.istore 4, 2) := by decide +kernel
theorem dL_law_23 : decode cL_law 23 = .ok (.iload 4, 2) := by decide +kernel
theorem dL_law_25 : decode cL_law 25 = .ok (.aload_n 0, 1) := by decide +kernel
theorem dL_law_26 : decode cL_law 26 = .ok (.arraylength, 1) := by decide +kernel
theorem dL_law_27 : decode cL_law 27 = .ok (.iconst 5, 1) := by decide +kernel
theorem dL_law_28 : decode cL_law 28 = .ok (.isub, 1) := by decide +kernel
theorem dL_law_29 : decode cL_law 29 = .ok (.if_icmp .gt 876, 3) := by decide +kernel
theorem dL_law_32 : decode cL_law 32 = .ok (.aload_n 0, 1) := by decide +kernel
theorem dL_law_33 : decode cL_law 33 = .ok (.iload 4, 2) := by decide +kernel
theorem dL_law_35 : decode cL_law 35 = .ok (.iaload, 1) := by decide +kernel
theorem dL_law_36 : decode cL_law 36 = .ok (.bipush 15, 2) := by decide +kernel
theorem dL_law_38 : decode cL_law 38 = .ok (.iand, 1) := by decide +kernel
theorem dL_law_39 : decode cL_law 39 = .ok (.tableswitch 860 0 13 #[69, 161, 186, 199, 224, 308, 364, 420, 476, 532, 588, 656, 724, 792], 69) := by decide +kernel
theorem dL_law_108 : decode cL_law 108 = .ok (.aload_n 1, 1) := by decide +kernel
theorem dL_law_109 : decode cL_law 109 = .ok (.aload_n 0, 1) := by decide +kernel
theorem dL_law_110 : decode cL_law 110 = .ok (.iload 4, 2) := by decide +kernel
theorem dL_law_112 : decode cL_law 112 = .ok (.iconst 1, 1) := by decide +kernel
theorem dL_law_113 : decode cL_law 113 = .ok (.iadd, 1) := by decide +kernel
theorem dL_law_114 : decode cL_law 114 = .ok (.iaload, 1) := by decide +kernel
theorem dL_law_115 : decode cL_law 115 = .ok (.aload_n 0, 1) := by decide +kernel
theorem dL_law_116 : decode cL_law 116 = .ok (.iload 4, 2) := by decide +kernel
theorem dL_law_118 : decode cL_law 118 = .ok (.iconst 2, 1) := by decide +kernel
theorem dL_law_119 : decode cL_law 119 = .ok (.iadd, 1) := by decide +kernel
theorem dL_law_120 : decode cL_law 120 = .ok (.iaload, 1) := by decide +kernel
theorem dL_law_121 : decode cL_law 121 = .ok (.aload_n 0, 1) := by decide +kernel
theorem dL_law_122 : decode cL_law 122 = .ok (.iload 4, 2) := by decide +kernel
theorem dL_law_124 : decode cL_law 124 = .ok (.iconst 3, 1) := by decide +kernel
theorem dL_law_125 : decode cL_law 125 = .ok (.iadd, 1) := by decide +kernel
theorem dL_law_126 : decode cL_law 126 = .ok (.iaload, 1) := by decide +kernel
theorem dL_law_127 : decode cL_law 127 = .ok (.aload_n 0, 1) := by decide +kernel
theorem dL_law_128 : decode cL_law 128 = .ok (.iload 4, 2) := by decide +kernel
theorem dL_law_130 : decode cL_law 130 = .ok (.iconst 4, 1) := by decide +kernel
theorem dL_law_131 : decode cL_law 131 = .ok (.iadd, 1) := by decide +kernel
theorem dL_law_132 : decode cL_law 132 = .ok (.iaload, 1) := by decide +kernel
theorem dL_law_133 : decode cL_law 133 = .ok (.aload_n 3, 1) := by decide +kernel
theorem dL_law_134 : decode cL_law 134 = .ok (.invokestatic 56, 3) := by decide +kernel
theorem dL_law_137 : decode cL_law 137 = .ok (.istore 5, 2) := by decide +kernel
theorem dL_law_139 : decode cL_law 139 = .ok (.aload_n 2, 1) := by decide +kernel
theorem dL_law_140 : decode cL_law 140 = .ok (.aload_n 0, 1) := by decide +kernel
theorem dL_law_141 : decode cL_law 141 = .ok (.iload 4, 2) := by decide +kernel
theorem dL_law_143 : decode cL_law 143 = .ok (.iconst 1, 1) := by decide +kernel
theorem dL_law_144 : decode cL_law 144 = .ok (.iadd, 1) := by decide +kernel
theorem dL_law_145 : decode cL_law 145 = .ok (.iaload, 1) := by decide +kernel
theorem dL_law_146 : decode cL_law 146 = .ok (.aload_n 0, 1) := by decide +kernel
theorem dL_law_147 : decode cL_law 147 = .ok (.iload 4, 2) := by decide +kernel
theorem dL_law_149 : decode cL_law 149 = .ok (.iconst 2, 1) := by decide +kernel
theorem dL_law_150 : decode cL_law 150 = .ok (.iadd, 1) := by decide +kernel
theorem dL_law_151 : decode cL_law 151 = .ok (.iaload, 1) := by decide +kernel
theorem dL_law_152 : decode cL_law 152 = .ok (.aload_n 0, 1) := by decide +kernel
theorem dL_law_153 : decode cL_law 153 = .ok (.iload 4, 2) := by decide +kernel
theorem dL_law_155 : decode cL_law 155 = .ok (.iconst 3, 1) := by decide +kernel
theorem dL_law_156 : decode cL_law 156 = .ok (.iadd, 1) := by decide +kernel
theorem dL_law_157 : decode cL_law 157 = .ok (.iaload, 1) := by decide +kernel
theorem dL_law_158 : decode cL_law 158 = .ok (.aload_n 0, 1) := by decide +kernel
theorem dL_law_159 : decode cL_law 159 = .ok (.iload 4, 2) := by decide +kernel
theorem dL_law_161 : decode cL_law 161 = .ok (.iconst 4, 1) := by decide +kernel
theorem dL_law_162 : decode cL_law 162 = .ok (.iadd, 1) := by decide +kernel
theorem dL_law_163 : decode cL_law 163 = .ok (.iaload, 1) := by decide +kernel
theorem dL_law_164 : decode cL_law 164 = .ok (.invokevirtual 61, 3) := by decide +kernel
theorem dL_law_167 : decode cL_law 167 = .ok (.istore 6, 2) := by decide +kernel
theorem dL_law_169 : decode cL_law 169 = .ok (.aload_n 2, 1) := by decide +kernel
theorem dL_law_170 : decode cL_law 170 = .ok (.invokevirtual 62, 3) := by decide +kernel
theorem dL_law_173 : decode cL_law 173 = .ok (.iload 5, 2) := by decide +kernel
theorem dL_law_175 : decode cL_law 175 = .ok (.if_icmp .eq 5, 3) := by decide +kernel
theorem dL_law_178 : decode cL_law 178 = .ok (.iconst 0, 1) := by decide +kernel
theorem dL_law_179 : decode cL_law 179 = .ok (.ireturn, 1) := by decide +kernel
theorem dL_law_180 : decode cL_law 180 = .ok (.iload 5, 2) := by decide +kernel
theorem dL_law_182 : decode cL_law 182 = .ok (.ifCond .ne 15, 3) := by decide +kernel
theorem dL_law_185 : decode cL_law 185 = .ok (.aload_n 3, 1) := by decide +kernel
theorem dL_law_186 : decode cL_law 186 = .ok (.iconst 0, 1) := by decide +kernel
theorem dL_law_187 : decode cL_law 187 = .ok (.laload, 1) := by decide +kernel
theorem dL_law_188 : decode cL_law 188 = .ok (.iload 6, 2) := by decide +kernel
theorem dL_law_190 : decode cL_law 190 = .ok (.i2l, 1) := by decide +kernel
theorem dL_law_191 : decode cL_law 191 = .ok (.lcmp, 1) := by decide +kernel
theorem dL_law_192 : decode cL_law 192 = .ok (.ifCond .eq 5, 3) := by decide +kernel
theorem dL_law_195 : decode cL_law 195 = .ok (.iconst 0, 1) := by decide +kernel
theorem dL_law_196 : decode cL_law 196 = .ok (.ireturn, 1) := by decide +kernel
theorem dL_law_197 : decode cL_law 197 = .ok (.goto 702, 3) := by decide +kernel
theorem dL_law_200 : decode cL_law 200 = .ok (.aload_n 1, 1) := by decide +kernel
theorem dL_law_201 : decode cL_law 201 = .ok (.aload_n 0, 1) := by decide +kernel
theorem dL_law_202 : decode cL_law 202 = .ok (.iload 4, 2) := by decide +kernel
theorem dL_law_204 : decode cL_law 204 = .ok (.iconst 1, 1) := by decide +kernel
theorem dL_law_205 : decode cL_law 205 = .ok (.iadd, 1) := by decide +kernel
theorem dL_law_206 : decode cL_law 206 = .ok (.iaload, 1) := by decide +kernel
theorem dL_law_207 : decode cL_law 207 = .ok (.invokevirtual 66, 3) := by decide +kernel
theorem dL_law_210 : decode cL_law 210 = .ok (.aload_n 2, 1) := by decide +kernel
theorem dL_law_211 : decode cL_law 211 = .ok (.aload_n 0, 1) := by decide +kernel
theorem dL_law_212 : decode cL_law 212 = .ok (.iload 4, 2) := by decide +kernel
theorem dL_law_214 : decode cL_law 214 = .ok (.iconst 1, 1) := by decide +kernel
theorem dL_law_215 : decode cL_law 215 = .ok (.iadd, 1) := by decide +kernel
theorem dL_law_216 : decode cL_law 216 = .ok (.iaload, 1) := by decide +kernel
theorem dL_law_217 : decode cL_law 217 = .ok (.invokevirtual 70, 3) := by decide +kernel
theorem dL_law_220 : decode cL_law 220 = .ok (.if_icmp .eq 679, 3) := by decide +kernel
theorem dL_law_223 : decode cL_law 223 = .ok (.iconst 0, 1) := by decide +kernel
theorem dL_law_224 : decode cL_law 224 = .ok (.ireturn, 1) := by decide +kernel
theorem dL_law_225 : decode cL_law 225 = .ok (.aload_n 1, 1) := by decide +kernel
theorem dL_law_226 : decode cL_law 226 = .ok (.invokevirtual 71, 3) := by decide +kernel
theorem dL_law_229 : decode cL_law 229 = .ok (.aload_n 2, 1) := by decide +kernel
theorem dL_law_230 : decode cL_law 230 = .ok (.invokevirtual 74, 3) := by decide +kernel
theorem dL_law_233 : decode cL_law 233 = .ok (.if_icmp .eq 666, 3) := by decide +kernel
theorem dL_law_236 : decode cL_law 236 = .ok (.iconst 0, 1) := by decide +kernel
theorem dL_law_237 : decode cL_law 237 = .ok (.ireturn, 1) := by decide +kernel
theorem dL_law_238 : decode cL_law 238 = .ok (.aload_n 1, 1) := by decide +kernel
theorem dL_law_239 : decode cL_law 239 = .ok (.aload_n 0, 1) := by decide +kernel
theorem dL_law_240 : decode cL_law 240 = .ok (.iload 4, 2) := by decide +kernel
theorem dL_law_242 : decode cL_law 242 = .ok (.iconst 1, 1) := by decide +kernel
theorem dL_law_243 : decode cL_law 243 = .ok (.iadd, 1) := by decide +kernel
theorem dL_law_244 : decode cL_law 244 = .ok (.iaload, 1) := by decide +kernel
theorem dL_law_245 : decode cL_law 245 = .ok (.invokevirtual 75, 3) := by decide +kernel
theorem dL_law_248 : decode cL_law 248 = .ok (.aload_n 2, 1) := by decide +kernel
theorem dL_law_249 : decode cL_law 249 = .ok (.aload_n 0, 1) := by decide +kernel
theorem dL_law_250 : decode cL_law 250 = .ok (.iload 4, 2) := by decide +kernel
theorem dL_law_252 : decode cL_law 252 = .ok (.iconst 1, 1) := by decide +kernel
theorem dL_law_253 : decode cL_law 253 = .ok (.iadd, 1) := by decide +kernel
theorem dL_law_254 : decode cL_law 254 = .ok (.iaload, 1) := by decide +kernel
theorem dL_law_255 : decode cL_law 255 = .ok (.invokevirtual 78, 3) := by decide +kernel
theorem dL_law_258 : decode cL_law 258 = .ok (.if_icmp .eq 641, 3) := by decide +kernel
theorem dL_law_261 : decode cL_law 261 = .ok (.iconst 0, 1) := by decide +kernel
theorem dL_law_262 : decode cL_law 262 = .ok (.ireturn, 1) := by decide +kernel
theorem dL_law_263 : decode cL_law 263 = .ok (.aload_n 1, 1) := by decide +kernel
theorem dL_law_264 : decode cL_law 264 = .ok (.aload_n 0, 1) := by decide +kernel
theorem dL_law_265 : decode cL_law 265 = .ok (.iload 4, 2) := by decide +kernel
theorem dL_law_267 : decode cL_law 267 = .ok (.iconst 1, 1) := by decide +kernel
theorem dL_law_268 : decode cL_law 268 = .ok (.iadd, 1) := by decide +kernel
theorem dL_law_269 : decode cL_law 269 = .ok (.iaload, 1) := by decide +kernel
theorem dL_law_270 : decode cL_law 270 = .ok (.aload_n 0, 1) := by decide +kernel
theorem dL_law_271 : decode cL_law 271 = .ok (.iload 4, 2) := by decide +kernel
theorem dL_law_273 : decode cL_law 273 = .ok (.iconst 2, 1) := by decide +kernel
theorem dL_law_274 : decode cL_law 274 = .ok (.iadd, 1) := by decide +kernel
theorem dL_law_275 : decode cL_law 275 = .ok (.iaload, 1) := by decide +kernel
theorem dL_law_276 : decode cL_law 276 = .ok (.ifCond .eq 7, 3) := by decide +kernel
theorem dL_law_279 : decode cL_law 279 = .ok (.iconst 1, 1) := by decide +kernel
theorem dL_law_280 : decode cL_law 280 = .ok (.goto 4, 3) := by decide +kernel
theorem dL_law_283 : decode cL_law 283 = .ok (.iconst 0, 1) := by decide +kernel
theorem dL_law_284 : decode cL_law 284 = .ok (.aload_n 3, 1) := by decide +kernel
theorem dL_law_285 : decode cL_law 285 = .ok (.invokestatic 79, 3) := by decide +kernel
theorem dL_law_288 : decode cL_law 288 = .ok (.istore 5, 2) := by decide +kernel
theorem dL_law_290 : decode cL_law 290 = .ok (.aload_n 2, 1) := by decide +kernel
theorem dL_law_291 : decode cL_law 291 = .ok (.aload_n 0, 1) := by decide +kernel
theorem dL_law_292 : decode cL_law 292 = .ok (.iload 4, 2) := by decide +kernel
theorem dL_law_294 : decode cL_law 294 = .ok (.iconst 1, 1) := by decide +kernel
theorem dL_law_295 : decode cL_law 295 = .ok (.iadd, 1) := by decide +kernel
theorem dL_law_296 : decode cL_law 296 = .ok (.iaload, 1) := by decide +kernel
theorem dL_law_297 : decode cL_law 297 = .ok (.aload_n 0, 1) := by decide +kernel
theorem dL_law_298 : decode cL_law 298 = .ok (.iload 4, 2) := by decide +kernel
theorem dL_law_300 : decode cL_law 300 = .ok (.iconst 2, 1) := by decide +kernel
theorem dL_law_301 : decode cL_law 301 = .ok (.iadd, 1) := by decide +kernel
theorem dL_law_302 : decode cL_law 302 = .ok (.iaload, 1) := by decide +kernel
theorem dL_law_303 : decode cL_law 303 = .ok (.ifCond .eq 7, 3) := by decide +kernel
theorem dL_law_306 : decode cL_law 306 = .ok (.iconst 1, 1) := by decide +kernel
theorem dL_law_307 : decode cL_law 307 = .ok (.goto 4, 3) := by decide +kernel
theorem dL_law_310 : decode cL_law 310 = .ok (.iconst 0, 1) := by decide +kernel
theorem dL_law_311 : decode cL_law 311 = .ok (.invokevirtual 82, 3) := by decide +kernel
theorem dL_law_314 : decode cL_law 314 = .ok (.istore 6, 2) := by decide +kernel
theorem dL_law_316 : decode cL_law 316 = .ok (.aload_n 2, 1) := by decide +kernel
theorem dL_law_317 : decode cL_law 317 = .ok (.invokevirtual 62, 3) := by decide +kernel
theorem dL_law_320 : decode cL_law 320 = .ok (.iload 5, 2) := by decide +kernel
theorem dL_law_322 : decode cL_law 322 = .ok (.if_icmp .eq 5, 3) := by decide +kernel
theorem dL_law_325 : decode cL_law 325 = .ok (.iconst 0, 1) := by decide +kernel
theorem dL_law_326 : decode cL_law 326 = .ok (.ireturn, 1) := by decide +kernel
theorem dL_law_327 : decode cL_law 327 = .ok (.iload 5, 2) := by decide +kernel
theorem dL_law_329 : decode cL_law 329 = .ok (.ifCond .ne 15, 3) := by decide +kernel
theorem dL_law_332 : decode cL_law 332 = .ok (.aload_n 3, 1) := by decide +kernel
theorem dL_law_333 : decode cL_law 333 = .ok (.iconst 0, 1) := by decide +kernel
theorem dL_law_334 : decode cL_law 334 = .ok (.laload, 1) := by decide +kernel
theorem dL_law_335 : decode cL_law 335 = .ok (.iload 6, 2) := by decide +kernel
theorem dL_law_337 : decode cL_law 337 = .ok (.i2l, 1) := by decide +kernel
theorem dL_law_338 : decode cL_law 338 = .ok (.lcmp, 1) := by decide +kernel
theorem dL_law_339 : decode cL_law 339 = .ok (.ifCond .eq 5, 3) := by decide +kernel
theorem dL_law_342 : decode cL_law 342 = .ok (.iconst 0, 1) := by decide +kernel
theorem dL_law_343 : decode cL_law 343 = .ok (.ireturn, 1) := by decide +kernel
theorem dL_law_344 : decode cL_law 344 = .ok (.goto 555, 3) := by decide +kernel
theorem dL_law_347 : decode cL_law 347 = .ok (.aload_n 1, 1) := by decide +kernel
theorem dL_law_348 : decode cL_law 348 = .ok (.aload_n 0, 1) := by decide +kernel
theorem dL_law_349 : decode cL_law 349 = .ok (.iload 4, 2) := by decide +kernel
theorem dL_law_351 : decode cL_law 351 = .ok (.iconst 1, 1) := by decide +kernel
theorem dL_law_352 : decode cL_law 352 = .ok (.iadd, 1) := by decide +kernel
theorem dL_law_353 : decode cL_law 353 = .ok (.iaload, 1) := by decide +kernel
theorem dL_law_354 : decode cL_law 354 = .ok (.aload_n 3, 1) := by decide +kernel
theorem dL_law_355 : decode cL_law 355 = .ok (.invokestatic 83, 3) := by decide +kernel
theorem dL_law_358 : decode cL_law 358 = .ok (.istore 5, 2) := by decide +kernel
theorem dL_law_360 : decode cL_law 360 = .ok (.aload_n 2, 1) := by decide +kernel
theorem dL_law_361 : decode cL_law 361 = .ok (.aload_n 0, 1) := by decide +kernel
theorem dL_law_362 : decode cL_law 362 = .ok (.iload 4, 2) := by decide +kernel
theorem dL_law_364 : decode cL_law 364 = .ok (.iconst 1, 1) := by decide +kernel
theorem dL_law_365 : decode cL_law 365 = .ok (.iadd, 1) := by decide +kernel
theorem dL_law_366 : decode cL_law 366 = .ok (.iaload, 1) := by decide +kernel
theorem dL_law_367 : decode cL_law 367 = .ok (.invokevirtual 86, 3) := by decide +kernel
theorem dL_law_370 : decode cL_law 370 = .ok (.istore 6, 2) := by decide +kernel
theorem dL_law_372 : decode cL_law 372 = .ok (.aload_n 2, 1) := by decide +kernel
theorem dL_law_373 : decode cL_law 373 = .ok (.invokevirtual 62, 3) := by decide +kernel
theorem dL_law_376 : decode cL_law 376 = .ok (.iload 5, 2) := by decide +kernel
theorem dL_law_378 : decode cL_law 378 = .ok (.if_icmp .eq 5, 3) := by decide +kernel
theorem dL_law_381 : decode cL_law 381 = .ok (.iconst 0, 1) := by decide +kernel
theorem dL_law_382 : decode cL_law 382 = .ok (.ireturn, 1) := by decide +kernel
theorem dL_law_383 : decode cL_law 383 = .ok (.iload 5, 2) := by decide +kernel
theorem dL_law_385 : decode cL_law 385 = .ok (.ifCond .ne 15, 3) := by decide +kernel
theorem dL_law_388 : decode cL_law 388 = .ok (.aload_n 3, 1) := by decide +kernel
theorem dL_law_389 : decode cL_law 389 = .ok (.iconst 0, 1) := by decide +kernel
theorem dL_law_390 : decode cL_law 390 = .ok (.laload, 1) := by decide +kernel
theorem dL_law_391 : decode cL_law 391 = .ok (.iload 6, 2) := by decide +kernel
theorem dL_law_393 : decode cL_law 393 = .ok (.i2l, 1) := by decide +kernel
theorem dL_law_394 : decode cL_law 394 = .ok (.lcmp, 1) := by decide +kernel
theorem dL_law_395 : decode cL_law 395 = .ok (.ifCond .eq 5, 3) := by decide +kernel
theorem dL_law_398 : decode cL_law 398 = .ok (.iconst 0, 1) := by decide +kernel
theorem dL_law_399 : decode cL_law 399 = .ok (.ireturn, 1) := by decide +kernel
theorem dL_law_400 : decode cL_law 400 = .ok (.goto 499, 3) := by decide +kernel
theorem dL_law_403 : decode cL_law 403 = .ok (.aload_n 1, 1) := by decide +kernel
theorem dL_law_404 : decode cL_law 404 = .ok (.aload_n 0, 1) := by decide +kernel
theorem dL_law_405 : decode cL_law 405 = .ok (.iload 4, 2) := by decide +kernel
theorem dL_law_407 : decode cL_law 407 = .ok (.iconst 1, 1) := by decide +kernel
theorem dL_law_408 : decode cL_law 408 = .ok (.iadd, 1) := by decide +kernel
theorem dL_law_409 : decode cL_law 409 = .ok (.iaload, 1) := by decide +kernel
theorem dL_law_410 : decode cL_law 410 = .ok (.aload_n 3, 1) := by decide +kernel
theorem dL_law_411 : decode cL_law 411 = .ok (.invokestatic 87, 3) := by decide +kernel
theorem dL_law_414 : decode cL_law 414 = .ok (.istore 5, 2) := by decide +kernel
theorem dL_law_416 : decode cL_law 416 = .ok (.aload_n 2, 1) := by decide +kernel
theorem dL_law_417 : decode cL_law 417 = .ok (.aload_n 0, 1) := by decide +kernel
theorem dL_law_418 : decode cL_law 418 = .ok (.iload 4, 2) := by decide +kernel
theorem dL_law_420 : decode cL_law 420 = .ok (.iconst 1, 1) := by decide +kernel
theorem dL_law_421 : decode cL_law 421 = .ok (.iadd, 1) := by decide +kernel
theorem dL_law_422 : decode cL_law 422 = .ok (.iaload, 1) := by decide +kernel
theorem dL_law_423 : decode cL_law 423 = .ok (.invokevirtual 89, 3) := by decide +kernel
theorem dL_law_426 : decode cL_law 426 = .ok (.istore 6, 2) := by decide +kernel
theorem dL_law_428 : decode cL_law 428 = .ok (.aload_n 2, 1) := by decide +kernel
theorem dL_law_429 : decode cL_law 429 = .ok (.invokevirtual 62, 3) := by decide +kernel
theorem dL_law_432 : decode cL_law 432 = .ok (.iload 5, 2) := by decide +kernel
theorem dL_law_434 : decode cL_law 434 = .ok (.if_icmp .eq 5, 3) := by decide +kernel
theorem dL_law_437 : decode cL_law 437 = .ok (.iconst 0, 1) := by decide +kernel
theorem dL_law_438 : decode cL_law 438 = .ok (.ireturn, 1) := by decide +kernel
theorem dL_law_439 : decode cL_law 439 = .ok (.iload 5, 2) := by decide +kernel
theorem dL_law_441 : decode cL_law 441 = .ok (.ifCond .ne 15, 3) := by decide +kernel
theorem dL_law_444 : decode cL_law 444 = .ok (.aload_n 3, 1) := by decide +kernel
theorem dL_law_445 : decode cL_law 445 = .ok (.iconst 0, 1) := by decide +kernel
theorem dL_law_446 : decode cL_law 446 = .ok (.laload, 1) := by decide +kernel
theorem dL_law_447 : decode cL_law 447 = .ok (.iload 6, 2) := by decide +kernel
theorem dL_law_449 : decode cL_law 449 = .ok (.i2l, 1) := by decide +kernel
theorem dL_law_450 : decode cL_law 450 = .ok (.lcmp, 1) := by decide +kernel
theorem dL_law_451 : decode cL_law 451 = .ok (.ifCond .eq 5, 3) := by decide +kernel
theorem dL_law_454 : decode cL_law 454 = .ok (.iconst 0, 1) := by decide +kernel
theorem dL_law_455 : decode cL_law 455 = .ok (.ireturn, 1) := by decide +kernel
theorem dL_law_456 : decode cL_law 456 = .ok (.goto 443, 3) := by decide +kernel
theorem dL_law_459 : decode cL_law 459 = .ok (.aload_n 1, 1) := by decide +kernel
theorem dL_law_460 : decode cL_law 460 = .ok (.aload_n 0, 1) := by decide +kernel
theorem dL_law_461 : decode cL_law 461 = .ok (.iload 4, 2) := by decide +kernel
theorem dL_law_463 : decode cL_law 463 = .ok (.iconst 1, 1) := by decide +kernel
theorem dL_law_464 : decode cL_law 464 = .ok (.iadd, 1) := by decide +kernel
theorem dL_law_465 : decode cL_law 465 = .ok (.iaload, 1) := by decide +kernel
theorem dL_law_466 : decode cL_law 466 = .ok (.aload_n 3, 1) := by decide +kernel
theorem dL_law_467 : decode cL_law 467 = .ok (.invokestatic 90, 3) := by decide +kernel
theorem dL_law_470 : decode cL_law 470 = .ok (.istore 5, 2) := by decide +kernel
theorem dL_law_472 : decode cL_law 472 = .ok (.aload_n 2, 1) := by decide +kernel
theorem dL_law_473 : decode cL_law 473 = .ok (.aload_n 0, 1) := by decide +kernel
theorem dL_law_474 : decode cL_law 474 = .ok (.iload 4, 2) := by decide +kernel
theorem dL_law_476 : decode cL_law 476 = .ok (.iconst 1, 1) := by decide +kernel
theorem dL_law_477 : decode cL_law 477 = .ok (.iadd, 1) := by decide +kernel
theorem dL_law_478 : decode cL_law 478 = .ok (.iaload, 1) := by decide +kernel
theorem dL_law_479 : decode cL_law 479 = .ok (.invokevirtual 92, 3) := by decide +kernel
theorem dL_law_482 : decode cL_law 482 = .ok (.istore 6, 2) := by decide +kernel
theorem dL_law_484 : decode cL_law 484 = .ok (.aload_n 2, 1) := by decide +kernel
theorem dL_law_485 : decode cL_law 485 = .ok (.invokevirtual 62, 3) := by decide +kernel
theorem dL_law_488 : decode cL_law 488 = .ok (.iload 5, 2) := by decide +kernel
theorem dL_law_490 : decode cL_law 490 = .ok (.if_icmp .eq 5, 3) := by decide +kernel
theorem dL_law_493 : decode cL_law 493 = .ok (.iconst 0, 1) := by decide +kernel
theorem dL_law_494 : decode cL_law 494 = .ok (.ireturn, 1) := by decide +kernel
theorem dL_law_495 : decode cL_law 495 = .ok (.iload 5, 2) := by decide +kernel
theorem dL_law_497 : decode cL_law 497 = .ok (.ifCond .ne 15, 3) := by decide +kernel
theorem dL_law_500 : decode cL_law 500 = .ok (.aload_n 3, 1) := by decide +kernel
theorem dL_law_501 : decode cL_law 501 = .ok (.iconst 0, 1) := by decide +kernel
theorem dL_law_502 : decode cL_law 502 = .ok (.laload, 1) := by decide +kernel
theorem dL_law_503 : decode cL_law 503 = .ok (.iload 6, 2) := by decide +kernel
theorem dL_law_505 : decode cL_law 505 = .ok (.i2l, 1) := by decide +kernel
theorem dL_law_506 : decode cL_law 506 = .ok (.lcmp, 1) := by decide +kernel
theorem dL_law_507 : decode cL_law 507 = .ok (.ifCond .eq 5, 3) := by decide +kernel
theorem dL_law_510 : decode cL_law 510 = .ok (.iconst 0, 1) := by decide +kernel
theorem dL_law_511 : decode cL_law 511 = .ok (.ireturn, 1) := by decide +kernel
theorem dL_law_512 : decode cL_law 512 = .ok (.goto 387, 3) := by decide +kernel
theorem dL_law_515 : decode cL_law 515 = .ok (.aload_n 1, 1) := by decide +kernel
theorem dL_law_516 : decode cL_law 516 = .ok (.aload_n 0, 1) := by decide +kernel
theorem dL_law_517 : decode cL_law 517 = .ok (.iload 4, 2) := by decide +kernel
theorem dL_law_519 : decode cL_law 519 = .ok (.iconst 1, 1) := by decide +kernel
theorem dL_law_520 : decode cL_law 520 = .ok (.iadd, 1) := by decide +kernel
theorem dL_law_521 : decode cL_law 521 = .ok (.iaload, 1) := by decide +kernel
theorem dL_law_522 : decode cL_law 522 = .ok (.aload_n 3, 1) := by decide +kernel
theorem dL_law_523 : decode cL_law 523 = .ok (.invokestatic 93, 3) := by decide +kernel
theorem dL_law_526 : decode cL_law 526 = .ok (.istore 5, 2) := by decide +kernel
theorem dL_law_528 : decode cL_law 528 = .ok (.aload_n 2, 1) := by decide +kernel
theorem dL_law_529 : decode cL_law 529 = .ok (.aload_n 0, 1) := by decide +kernel
theorem dL_law_530 : decode cL_law 530 = .ok (.iload 4, 2) := by decide +kernel
theorem dL_law_532 : decode cL_law 532 = .ok (.iconst 1, 1) := by decide +kernel
theorem dL_law_533 : decode cL_law 533 = .ok (.iadd, 1) := by decide +kernel
theorem dL_law_534 : decode cL_law 534 = .ok (.iaload, 1) := by decide +kernel
theorem dL_law_535 : decode cL_law 535 = .ok (.invokevirtual 95, 3) := by decide +kernel
theorem dL_law_538 : decode cL_law 538 = .ok (.istore 6, 2) := by decide +kernel
theorem dL_law_540 : decode cL_law 540 = .ok (.aload_n 2, 1) := by decide +kernel
theorem dL_law_541 : decode cL_law 541 = .ok (.invokevirtual 62, 3) := by decide +kernel
theorem dL_law_544 : decode cL_law 544 = .ok (.iload 5, 2) := by decide +kernel
theorem dL_law_546 : decode cL_law 546 = .ok (.if_icmp .eq 5, 3) := by decide +kernel
theorem dL_law_549 : decode cL_law 549 = .ok (.iconst 0, 1) := by decide +kernel
theorem dL_law_550 : decode cL_law 550 = .ok (.ireturn, 1) := by decide +kernel
theorem dL_law_551 : decode cL_law 551 = .ok (.iload 5, 2) := by decide +kernel
theorem dL_law_553 : decode cL_law 553 = .ok (.ifCond .ne 15, 3) := by decide +kernel
theorem dL_law_556 : decode cL_law 556 = .ok (.aload_n 3, 1) := by decide +kernel
theorem dL_law_557 : decode cL_law 557 = .ok (.iconst 0, 1) := by decide +kernel
theorem dL_law_558 : decode cL_law 558 = .ok (.laload, 1) := by decide +kernel
theorem dL_law_559 : decode cL_law 559 = .ok (.iload 6, 2) := by decide +kernel
theorem dL_law_561 : decode cL_law 561 = .ok (.i2l, 1) := by decide +kernel
theorem dL_law_562 : decode cL_law 562 = .ok (.lcmp, 1) := by decide +kernel
theorem dL_law_563 : decode cL_law 563 = .ok (.ifCond .eq 5, 3) := by decide +kernel
theorem dL_law_566 : decode cL_law 566 = .ok (.iconst 0, 1) := by decide +kernel
theorem dL_law_567 : decode cL_law 567 = .ok (.ireturn, 1) := by decide +kernel
theorem dL_law_568 : decode cL_law 568 = .ok (.goto 331, 3) := by decide +kernel
theorem dL_law_571 : decode cL_law 571 = .ok (.aload_n 1, 1) := by decide +kernel
theorem dL_law_572 : decode cL_law 572 = .ok (.aload_n 0, 1) := by decide +kernel
theorem dL_law_573 : decode cL_law 573 = .ok (.iload 4, 2) := by decide +kernel
theorem dL_law_575 : decode cL_law 575 = .ok (.iconst 1, 1) := by decide +kernel
theorem dL_law_576 : decode cL_law 576 = .ok (.iadd, 1) := by decide +kernel
theorem dL_law_577 : decode cL_law 577 = .ok (.iaload, 1) := by decide +kernel
theorem dL_law_578 : decode cL_law 578 = .ok (.aload_n 3, 1) := by decide +kernel
theorem dL_law_579 : decode cL_law 579 = .ok (.invokestatic 96, 3) := by decide +kernel
theorem dL_law_582 : decode cL_law 582 = .ok (.istore 5, 2) := by decide +kernel
theorem dL_law_584 : decode cL_law 584 = .ok (.aload_n 2, 1) := by decide +kernel
theorem dL_law_585 : decode cL_law 585 = .ok (.aload_n 0, 1) := by decide +kernel
theorem dL_law_586 : decode cL_law 586 = .ok (.iload 4, 2) := by decide +kernel
theorem dL_law_588 : decode cL_law 588 = .ok (.iconst 1, 1) := by decide +kernel
theorem dL_law_589 : decode cL_law 589 = .ok (.iadd, 1) := by decide +kernel
theorem dL_law_590 : decode cL_law 590 = .ok (.iaload, 1) := by decide +kernel
theorem dL_law_591 : decode cL_law 591 = .ok (.invokevirtual 98, 3) := by decide +kernel
theorem dL_law_594 : decode cL_law 594 = .ok (.istore 6, 2) := by decide +kernel
theorem dL_law_596 : decode cL_law 596 = .ok (.aload_n 2, 1) := by decide +kernel
theorem dL_law_597 : decode cL_law 597 = .ok (.invokevirtual 62, 3) := by decide +kernel
theorem dL_law_600 : decode cL_law 600 = .ok (.iload 5, 2) := by decide +kernel
theorem dL_law_602 : decode cL_law 602 = .ok (.if_icmp .eq 5, 3) := by decide +kernel
theorem dL_law_605 : decode cL_law 605 = .ok (.iconst 0, 1) := by decide +kernel
theorem dL_law_606 : decode cL_law 606 = .ok (.ireturn, 1) := by decide +kernel
theorem dL_law_607 : decode cL_law 607 = .ok (.iload 5, 2) := by decide +kernel
theorem dL_law_609 : decode cL_law 609 = .ok (.ifCond .ne 15, 3) := by decide +kernel
theorem dL_law_612 : decode cL_law 612 = .ok (.aload_n 3, 1) := by decide +kernel
theorem dL_law_613 : decode cL_law 613 = .ok (.iconst 0, 1) := by decide +kernel
theorem dL_law_614 : decode cL_law 614 = .ok (.laload, 1) := by decide +kernel
theorem dL_law_615 : decode cL_law 615 = .ok (.iload 6, 2) := by decide +kernel
theorem dL_law_617 : decode cL_law 617 = .ok (.i2l, 1) := by decide +kernel
theorem dL_law_618 : decode cL_law 618 = .ok (.lcmp, 1) := by decide +kernel
theorem dL_law_619 : decode cL_law 619 = .ok (.ifCond .eq 5, 3) := by decide +kernel
theorem dL_law_622 : decode cL_law 622 = .ok (.iconst 0, 1) := by decide +kernel
theorem dL_law_623 : decode cL_law 623 = .ok (.ireturn, 1) := by decide +kernel
theorem dL_law_624 : decode cL_law 624 = .ok (.goto 275, 3) := by decide +kernel
theorem dL_law_627 : decode cL_law 627 = .ok (.aload_n 1, 1) := by decide +kernel
theorem dL_law_628 : decode cL_law 628 = .ok (.aload_n 0, 1) := by decide +kernel
theorem dL_law_629 : decode cL_law 629 = .ok (.iload 4, 2) := by decide +kernel
theorem dL_law_631 : decode cL_law 631 = .ok (.iconst 1, 1) := by decide +kernel
theorem dL_law_632 : decode cL_law 632 = .ok (.iadd, 1) := by decide +kernel
theorem dL_law_633 : decode cL_law 633 = .ok (.iaload, 1) := by decide +kernel
theorem dL_law_634 : decode cL_law 634 = .ok (.aload_n 0, 1) := by decide +kernel
theorem dL_law_635 : decode cL_law 635 = .ok (.iload 4, 2) := by decide +kernel
theorem dL_law_637 : decode cL_law 637 = .ok (.iconst 2, 1) := by decide +kernel
theorem dL_law_638 : decode cL_law 638 = .ok (.iadd, 1) := by decide +kernel
theorem dL_law_639 : decode cL_law 639 = .ok (.iaload, 1) := by decide +kernel
theorem dL_law_640 : decode cL_law 640 = .ok (.aload_n 3, 1) := by decide +kernel
theorem dL_law_641 : decode cL_law 641 = .ok (.invokestatic 99, 3) := by decide +kernel
theorem dL_law_644 : decode cL_law 644 = .ok (.istore 5, 2) := by decide +kernel
theorem dL_law_646 : decode cL_law 646 = .ok (.aload_n 2, 1) := by decide +kernel
theorem dL_law_647 : decode cL_law 647 = .ok (.aload_n 0, 1) := by decide +kernel
theorem dL_law_648 : decode cL_law 648 = .ok (.iload 4, 2) := by decide +kernel
theorem dL_law_650 : decode cL_law 650 = .ok (.iconst 1, 1) := by decide +kernel
theorem dL_law_651 : decode cL_law 651 = .ok (.iadd, 1) := by decide +kernel
theorem dL_law_652 : decode cL_law 652 = .ok (.iaload, 1) := by decide +kernel
theorem dL_law_653 : decode cL_law 653 = .ok (.aload_n 0, 1) := by decide +kernel
theorem dL_law_654 : decode cL_law 654 = .ok (.iload 4, 2) := by decide +kernel
theorem dL_law_656 : decode cL_law 656 = .ok (.iconst 2, 1) := by decide +kernel
theorem dL_law_657 : decode cL_law 657 = .ok (.iadd, 1) := by decide +kernel
theorem dL_law_658 : decode cL_law 658 = .ok (.iaload, 1) := by decide +kernel
theorem dL_law_659 : decode cL_law 659 = .ok (.invokevirtual 102, 3) := by decide +kernel
theorem dL_law_662 : decode cL_law 662 = .ok (.istore 6, 2) := by decide +kernel
theorem dL_law_664 : decode cL_law 664 = .ok (.aload_n 2, 1) := by decide +kernel
theorem dL_law_665 : decode cL_law 665 = .ok (.invokevirtual 62, 3) := by decide +kernel
theorem dL_law_668 : decode cL_law 668 = .ok (.iload 5, 2) := by decide +kernel
theorem dL_law_670 : decode cL_law 670 = .ok (.if_icmp .eq 5, 3) := by decide +kernel
theorem dL_law_673 : decode cL_law 673 = .ok (.iconst 0, 1) := by decide +kernel
theorem dL_law_674 : decode cL_law 674 = .ok (.ireturn, 1) := by decide +kernel
theorem dL_law_675 : decode cL_law 675 = .ok (.iload 5, 2) := by decide +kernel
theorem dL_law_677 : decode cL_law 677 = .ok (.ifCond .ne 15, 3) := by decide +kernel
theorem dL_law_680 : decode cL_law 680 = .ok (.aload_n 3, 1) := by decide +kernel
theorem dL_law_681 : decode cL_law 681 = .ok (.iconst 0, 1) := by decide +kernel
theorem dL_law_682 : decode cL_law 682 = .ok (.laload, 1) := by decide +kernel
theorem dL_law_683 : decode cL_law 683 = .ok (.iload 6, 2) := by decide +kernel
theorem dL_law_685 : decode cL_law 685 = .ok (.i2l, 1) := by decide +kernel
theorem dL_law_686 : decode cL_law 686 = .ok (.lcmp, 1) := by decide +kernel
theorem dL_law_687 : decode cL_law 687 = .ok (.ifCond .eq 5, 3) := by decide +kernel
theorem dL_law_690 : decode cL_law 690 = .ok (.iconst 0, 1) := by decide +kernel
theorem dL_law_691 : decode cL_law 691 = .ok (.ireturn, 1) := by decide +kernel
theorem dL_law_692 : decode cL_law 692 = .ok (.goto 207, 3) := by decide +kernel
theorem dL_law_695 : decode cL_law 695 = .ok (.aload_n 1, 1) := by decide +kernel
theorem dL_law_696 : decode cL_law 696 = .ok (.aload_n 0, 1) := by decide +kernel
theorem dL_law_697 : decode cL_law 697 = .ok (.iload 4, 2) := by decide +kernel
theorem dL_law_699 : decode cL_law 699 = .ok (.iconst 1, 1) := by decide +kernel
theorem dL_law_700 : decode cL_law 700 = .ok (.iadd, 1) := by decide +kernel
theorem dL_law_701 : decode cL_law 701 = .ok (.iaload, 1) := by decide +kernel
theorem dL_law_702 : decode cL_law 702 = .ok (.aload_n 0, 1) := by decide +kernel
theorem dL_law_703 : decode cL_law 703 = .ok (.iload 4, 2) := by decide +kernel
theorem dL_law_705 : decode cL_law 705 = .ok (.iconst 2, 1) := by decide +kernel
theorem dL_law_706 : decode cL_law 706 = .ok (.iadd, 1) := by decide +kernel
theorem dL_law_707 : decode cL_law 707 = .ok (.iaload, 1) := by decide +kernel
theorem dL_law_708 : decode cL_law 708 = .ok (.aload_n 3, 1) := by decide +kernel
theorem dL_law_709 : decode cL_law 709 = .ok (.invokestatic 103, 3) := by decide +kernel
theorem dL_law_712 : decode cL_law 712 = .ok (.istore 5, 2) := by decide +kernel
theorem dL_law_714 : decode cL_law 714 = .ok (.aload_n 2, 1) := by decide +kernel
theorem dL_law_715 : decode cL_law 715 = .ok (.aload_n 0, 1) := by decide +kernel
theorem dL_law_716 : decode cL_law 716 = .ok (.iload 4, 2) := by decide +kernel
theorem dL_law_718 : decode cL_law 718 = .ok (.iconst 1, 1) := by decide +kernel
theorem dL_law_719 : decode cL_law 719 = .ok (.iadd, 1) := by decide +kernel
theorem dL_law_720 : decode cL_law 720 = .ok (.iaload, 1) := by decide +kernel
theorem dL_law_721 : decode cL_law 721 = .ok (.aload_n 0, 1) := by decide +kernel
theorem dL_law_722 : decode cL_law 722 = .ok (.iload 4, 2) := by decide +kernel
theorem dL_law_724 : decode cL_law 724 = .ok (.iconst 2, 1) := by decide +kernel
theorem dL_law_725 : decode cL_law 725 = .ok (.iadd, 1) := by decide +kernel
theorem dL_law_726 : decode cL_law 726 = .ok (.iaload, 1) := by decide +kernel
theorem dL_law_727 : decode cL_law 727 = .ok (.invokevirtual 105, 3) := by decide +kernel
theorem dL_law_730 : decode cL_law 730 = .ok (.istore 6, 2) := by decide +kernel
theorem dL_law_732 : decode cL_law 732 = .ok (.aload_n 2, 1) := by decide +kernel
theorem dL_law_733 : decode cL_law 733 = .ok (.invokevirtual 62, 3) := by decide +kernel
theorem dL_law_736 : decode cL_law 736 = .ok (.iload 5, 2) := by decide +kernel
theorem dL_law_738 : decode cL_law 738 = .ok (.if_icmp .eq 5, 3) := by decide +kernel
theorem dL_law_741 : decode cL_law 741 = .ok (.iconst 0, 1) := by decide +kernel
theorem dL_law_742 : decode cL_law 742 = .ok (.ireturn, 1) := by decide +kernel
theorem dL_law_743 : decode cL_law 743 = .ok (.iload 5, 2) := by decide +kernel
theorem dL_law_745 : decode cL_law 745 = .ok (.ifCond .ne 15, 3) := by decide +kernel
theorem dL_law_748 : decode cL_law 748 = .ok (.aload_n 3, 1) := by decide +kernel
theorem dL_law_749 : decode cL_law 749 = .ok (.iconst 0, 1) := by decide +kernel
theorem dL_law_750 : decode cL_law 750 = .ok (.laload, 1) := by decide +kernel
theorem dL_law_751 : decode cL_law 751 = .ok (.iload 6, 2) := by decide +kernel
theorem dL_law_753 : decode cL_law 753 = .ok (.i2l, 1) := by decide +kernel
theorem dL_law_754 : decode cL_law 754 = .ok (.lcmp, 1) := by decide +kernel
theorem dL_law_755 : decode cL_law 755 = .ok (.ifCond .eq 5, 3) := by decide +kernel
theorem dL_law_758 : decode cL_law 758 = .ok (.iconst 0, 1) := by decide +kernel
theorem dL_law_759 : decode cL_law 759 = .ok (.ireturn, 1) := by decide +kernel
theorem dL_law_760 : decode cL_law 760 = .ok (.goto 139, 3) := by decide +kernel
theorem dL_law_763 : decode cL_law 763 = .ok (.aload_n 1, 1) := by decide +kernel
theorem dL_law_764 : decode cL_law 764 = .ok (.aload_n 0, 1) := by decide +kernel
theorem dL_law_765 : decode cL_law 765 = .ok (.iload 4, 2) := by decide +kernel
theorem dL_law_767 : decode cL_law 767 = .ok (.iconst 1, 1) := by decide +kernel
theorem dL_law_768 : decode cL_law 768 = .ok (.iadd, 1) := by decide +kernel
theorem dL_law_769 : decode cL_law 769 = .ok (.iaload, 1) := by decide +kernel
theorem dL_law_770 : decode cL_law 770 = .ok (.aload_n 0, 1) := by decide +kernel
theorem dL_law_771 : decode cL_law 771 = .ok (.iload 4, 2) := by decide +kernel
theorem dL_law_773 : decode cL_law 773 = .ok (.iconst 2, 1) := by decide +kernel
theorem dL_law_774 : decode cL_law 774 = .ok (.iadd, 1) := by decide +kernel
theorem dL_law_775 : decode cL_law 775 = .ok (.iaload, 1) := by decide +kernel
theorem dL_law_776 : decode cL_law 776 = .ok (.aload_n 3, 1) := by decide +kernel
theorem dL_law_777 : decode cL_law 777 = .ok (.invokestatic 106, 3) := by decide +kernel
theorem dL_law_780 : decode cL_law 780 = .ok (.istore 5, 2) := by decide +kernel
theorem dL_law_782 : decode cL_law 782 = .ok (.aload_n 2, 1) := by decide +kernel
theorem dL_law_783 : decode cL_law 783 = .ok (.aload_n 0, 1) := by decide +kernel
theorem dL_law_784 : decode cL_law 784 = .ok (.iload 4, 2) := by decide +kernel
theorem dL_law_786 : decode cL_law 786 = .ok (.iconst 1, 1) := by decide +kernel
theorem dL_law_787 : decode cL_law 787 = .ok (.iadd, 1) := by decide +kernel
theorem dL_law_788 : decode cL_law 788 = .ok (.iaload, 1) := by decide +kernel
theorem dL_law_789 : decode cL_law 789 = .ok (.aload_n 0, 1) := by decide +kernel
theorem dL_law_790 : decode cL_law 790 = .ok (.iload 4, 2) := by decide +kernel
theorem dL_law_792 : decode cL_law 792 = .ok (.iconst 2, 1) := by decide +kernel
theorem dL_law_793 : decode cL_law 793 = .ok (.iadd, 1) := by decide +kernel
theorem dL_law_794 : decode cL_law 794 = .ok (.iaload, 1) := by decide +kernel
theorem dL_law_795 : decode cL_law 795 = .ok (.invokevirtual 108, 3) := by decide +kernel
theorem dL_law_798 : decode cL_law 798 = .ok (.istore 6, 2) := by decide +kernel
theorem dL_law_800 : decode cL_law 800 = .ok (.aload_n 2, 1) := by decide +kernel
theorem dL_law_801 : decode cL_law 801 = .ok (.invokevirtual 62, 3) := by decide +kernel
theorem dL_law_804 : decode cL_law 804 = .ok (.iload 5, 2) := by decide +kernel
theorem dL_law_806 : decode cL_law 806 = .ok (.if_icmp .eq 5, 3) := by decide +kernel
theorem dL_law_809 : decode cL_law 809 = .ok (.iconst 0, 1) := by decide +kernel
theorem dL_law_810 : decode cL_law 810 = .ok (.ireturn, 1) := by decide +kernel
theorem dL_law_811 : decode cL_law 811 = .ok (.iload 5, 2) := by decide +kernel
theorem dL_law_813 : decode cL_law 813 = .ok (.ifCond .ne 15, 3) := by decide +kernel
theorem dL_law_816 : decode cL_law 816 = .ok (.aload_n 3, 1) := by decide +kernel
theorem dL_law_817 : decode cL_law 817 = .ok (.iconst 0, 1) := by decide +kernel
theorem dL_law_818 : decode cL_law 818 = .ok (.laload, 1) := by decide +kernel
theorem dL_law_819 : decode cL_law 819 = .ok (.iload 6, 2) := by decide +kernel
theorem dL_law_821 : decode cL_law 821 = .ok (.i2l, 1) := by decide +kernel
theorem dL_law_822 : decode cL_law 822 = .ok (.lcmp, 1) := by decide +kernel
theorem dL_law_823 : decode cL_law 823 = .ok (.ifCond .eq 5, 3) := by decide +kernel
theorem dL_law_826 : decode cL_law 826 = .ok (.iconst 0, 1) := by decide +kernel
theorem dL_law_827 : decode cL_law 827 = .ok (.ireturn, 1) := by decide +kernel
theorem dL_law_828 : decode cL_law 828 = .ok (.goto 71, 3) := by decide +kernel
theorem dL_law_831 : decode cL_law 831 = .ok (.aload_n 1, 1) := by decide +kernel
theorem dL_law_832 : decode cL_law 832 = .ok (.aload_n 0, 1) := by decide +kernel
theorem dL_law_833 : decode cL_law 833 = .ok (.iload 4, 2) := by decide +kernel
theorem dL_law_835 : decode cL_law 835 = .ok (.iconst 1, 1) := by decide +kernel
theorem dL_law_836 : decode cL_law 836 = .ok (.iadd, 1) := by decide +kernel
theorem dL_law_837 : decode cL_law 837 = .ok (.iaload, 1) := by decide +kernel
theorem dL_law_838 : decode cL_law 838 = .ok (.aload_n 0, 1) := by decide +kernel
theorem dL_law_839 : decode cL_law 839 = .ok (.iload 4, 2) := by decide +kernel
theorem dL_law_841 : decode cL_law 841 = .ok (.iconst 2, 1) := by decide +kernel
theorem dL_law_842 : decode cL_law 842 = .ok (.iadd, 1) := by decide +kernel
theorem dL_law_843 : decode cL_law 843 = .ok (.iaload, 1) := by decide +kernel
theorem dL_law_844 : decode cL_law 844 = .ok (.aload_n 3, 1) := by decide +kernel
theorem dL_law_845 : decode cL_law 845 = .ok (.invokestatic 109, 3) := by decide +kernel
theorem dL_law_848 : decode cL_law 848 = .ok (.istore 5, 2) := by decide +kernel
theorem dL_law_850 : decode cL_law 850 = .ok (.aload_n 2, 1) := by decide +kernel
theorem dL_law_851 : decode cL_law 851 = .ok (.aload_n 0, 1) := by decide +kernel
theorem dL_law_852 : decode cL_law 852 = .ok (.iload 4, 2) := by decide +kernel
theorem dL_law_854 : decode cL_law 854 = .ok (.iconst 1, 1) := by decide +kernel
theorem dL_law_855 : decode cL_law 855 = .ok (.iadd, 1) := by decide +kernel
theorem dL_law_856 : decode cL_law 856 = .ok (.iaload, 1) := by decide +kernel
theorem dL_law_857 : decode cL_law 857 = .ok (.aload_n 0, 1) := by decide +kernel
theorem dL_law_858 : decode cL_law 858 = .ok (.iload 4, 2) := by decide +kernel
theorem dL_law_860 : decode cL_law 860 = .ok (.iconst 2, 1) := by decide +kernel
theorem dL_law_861 : decode cL_law 861 = .ok (.iadd, 1) := by decide +kernel
theorem dL_law_862 : decode cL_law 862 = .ok (.iaload, 1) := by decide +kernel
theorem dL_law_863 : decode cL_law 863 = .ok (.invokevirtual 111, 3) := by decide +kernel
theorem dL_law_866 : decode cL_law 866 = .ok (.istore 6, 2) := by decide +kernel
theorem dL_law_868 : decode cL_law 868 = .ok (.aload_n 2, 1) := by decide +kernel
theorem dL_law_869 : decode cL_law 869 = .ok (.invokevirtual 62, 3) := by decide +kernel
theorem dL_law_872 : decode cL_law 872 = .ok (.iload 5, 2) := by decide +kernel
theorem dL_law_874 : decode cL_law 874 = .ok (.if_icmp .eq 5, 3) := by decide +kernel
theorem dL_law_877 : decode cL_law 877 = .ok (.iconst 0, 1) := by decide +kernel
theorem dL_law_878 : decode cL_law 878 = .ok (.ireturn, 1) := by decide +kernel
theorem dL_law_879 : decode cL_law 879 = .ok (.iload 5, 2) := by decide +kernel
theorem dL_law_881 : decode cL_law 881 = .ok (.ifCond .ne 15, 3) := by decide +kernel
theorem dL_law_884 : decode cL_law 884 = .ok (.aload_n 3, 1) := by decide +kernel
theorem dL_law_885 : decode cL_law 885 = .ok (.iconst 0, 1) := by decide +kernel
theorem dL_law_886 : decode cL_law 886 = .ok (.laload, 1) := by decide +kernel
theorem dL_law_887 : decode cL_law 887 = .ok (.iload 6, 2) := by decide +kernel
theorem dL_law_889 : decode cL_law 889 = .ok (.i2l, 1) := by decide +kernel
theorem dL_law_890 : decode cL_law 890 = .ok (.lcmp, 1) := by decide +kernel
theorem dL_law_891 : decode cL_law 891 = .ok (.ifCond .eq 5, 3) := by decide +kernel
theorem dL_law_894 : decode cL_law 894 = .ok (.iconst 0, 1) := by decide +kernel
theorem dL_law_895 : decode cL_law 895 = .ok (.ireturn, 1) := by decide +kernel
theorem dL_law_896 : decode cL_law 896 = .ok (.goto 3, 3) := by decide +kernel
theorem dL_law_899 : decode cL_law 899 = .ok (.iinc 4 5, 3) := by decide +kernel
theorem dL_law_902 : decode cL_law 902 = .ok (.goto (-879), 3) := by decide +kernel
theorem dL_law_905 : decode cL_law 905 = .ok (.iconst 1, 1) := by decide +kernel
theorem dL_law_906 : decode cL_law 906 = .ok (.ireturn, 1) := by decide +kernel
end
section
theorem zz_t : True := trivial
end
