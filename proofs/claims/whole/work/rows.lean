section
-- ===== PART A: goes FIRST, ahead of the names: the tables' words, and 'selects' of the private methods out of them =====
/-- a private method of a class that the tables say can be made, by its rows of tables_1 -/
def lw_okq (q : MethodName × Nat) : Prop := (q.1.cls ≠ "java/lang/invoke/MethodHandle" ∧ q.1.cls ≠ "java/lang/invoke/VarHandle") ∧ Cond.instantiable q.1.cls q.2 ∈ tables_1 ∧ Cond.privateMethod q.1 ∈ tables_1 ∧ Cond.instanceMethod q.1 ∈ tables_1
theorem lw_p0 : lw_okq (⟨"FormPlaces", "shelveDraft", "(I)V"⟩, 7) := ⟨⟨by decide +kernel, by decide +kernel⟩, List.mem_of_getElem? (i := 14) (by decide +kernel), List.mem_of_getElem? (i := 256) (by decide +kernel), List.mem_of_getElem? (i := 257) (by decide +kernel)⟩
theorem lw_p1 : lw_okq (⟨"FormPlaces$Sum", "vanishesAtReal", "()Z"⟩, 2) := ⟨⟨by decide +kernel, by decide +kernel⟩, List.mem_of_getElem? (i := 131) (by decide +kernel), List.mem_of_getElem? (i := 287) (by decide +kernel), List.mem_of_getElem? (i := 288) (by decide +kernel)⟩
theorem lw_p2 : lw_okq (⟨"FormPlaces$Sum", "vanishesAtTwo", "()Z"⟩, 2) := ⟨⟨by decide +kernel, by decide +kernel⟩, List.mem_of_getElem? (i := 131) (by decide +kernel), List.mem_of_getElem? (i := 291) (by decide +kernel), List.mem_of_getElem? (i := 292) (by decide +kernel)⟩
theorem lw_p3 : lw_okq (⟨"FormPlaces$Sum", "partVanishes", "(IZ)Z"⟩, 2) := ⟨⟨by decide +kernel, by decide +kernel⟩, List.mem_of_getElem? (i := 131) (by decide +kernel), List.mem_of_getElem? (i := 300) (by decide +kernel), List.mem_of_getElem? (i := 301) (by decide +kernel)⟩
theorem lw_p4 : lw_okq (⟨"FormPlaces", "hasTerm", "(II)Z"⟩, 7) := ⟨⟨by decide +kernel, by decide +kernel⟩, List.mem_of_getElem? (i := 14) (by decide +kernel), List.mem_of_getElem? (i := 363) (by decide +kernel), List.mem_of_getElem? (i := 364) (by decide +kernel)⟩
theorem lw_p5 : lw_okq (⟨"FormPlaces", "hasForm", "(I)Z"⟩, 7) := ⟨⟨by decide +kernel, by decide +kernel⟩, List.mem_of_getElem? (i := 14) (by decide +kernel), List.mem_of_getElem? (i := 372) (by decide +kernel), List.mem_of_getElem? (i := 373) (by decide +kernel)⟩
theorem lw_p6 : lw_okq (⟨"FormPlaces", "leastLike", "(I)I"⟩, 7) := ⟨⟨by decide +kernel, by decide +kernel⟩, List.mem_of_getElem? (i := 14) (by decide +kernel), List.mem_of_getElem? (i := 399) (by decide +kernel), List.mem_of_getElem? (i := 400) (by decide +kernel)⟩
theorem lw_p7 : lw_okq (⟨"FormPlaces", "unlikeBits", "(LFormPlaces$Form;LFormPlaces$Form;)I"⟩, 7) := ⟨⟨by decide +kernel, by decide +kernel⟩, List.mem_of_getElem? (i := 14) (by decide +kernel), List.mem_of_getElem? (i := 412) (by decide +kernel), List.mem_of_getElem? (i := 413) (by decide +kernel)⟩
theorem lw_p8 : lw_okq (⟨"FormPlaces", "startAgainst", "(LFormPlaces$Form;I)V"⟩, 7) := ⟨⟨by decide +kernel, by decide +kernel⟩, List.mem_of_getElem? (i := 14) (by decide +kernel), List.mem_of_getElem? (i := 420) (by decide +kernel), List.mem_of_getElem? (i := 421) (by decide +kernel)⟩
theorem lw_p9 : lw_okq (⟨"FormPlaces$LeastRow", "seek", "(III)V"⟩, 6) := ⟨⟨by decide +kernel, by decide +kernel⟩, List.mem_of_getElem? (i := 146) (by decide +kernel), List.mem_of_getElem? (i := 437) (by decide +kernel), List.mem_of_getElem? (i := 438) (by decide +kernel)⟩
theorem lw_p10 : lw_okq (⟨"FormPlaces$LeastRow", "finish", "(III)V"⟩, 6) := ⟨⟨by decide +kernel, by decide +kernel⟩, List.mem_of_getElem? (i := 146) (by decide +kernel), List.mem_of_getElem? (i := 441) (by decide +kernel), List.mem_of_getElem? (i := 442) (by decide +kernel)⟩
theorem lw_p11 : lw_okq (⟨"FormPlaces$Pairs", "addIfReduced", "(III)V"⟩, 8) := ⟨⟨by decide +kernel, by decide +kernel⟩, List.mem_of_getElem? (i := 92) (by decide +kernel), List.mem_of_getElem? (i := 517) (by decide +kernel), List.mem_of_getElem? (i := 518) (by decide +kernel)⟩
theorem lw_p12 : lw_okq (⟨"FormPlaces$Pairs", "findRests", "(I)V"⟩, 8) := ⟨⟨by decide +kernel, by decide +kernel⟩, List.mem_of_getElem? (i := 92) (by decide +kernel), List.mem_of_getElem? (i := 524) (by decide +kernel), List.mem_of_getElem? (i := 525) (by decide +kernel)⟩
theorem lw_p13 : lw_okq (⟨"FormPlaces$Pairs", "addWithSquares", "(II)V"⟩, 8) := ⟨⟨by decide +kernel, by decide +kernel⟩, List.mem_of_getElem? (i := 92) (by decide +kernel), List.mem_of_getElem? (i := 537) (by decide +kernel), List.mem_of_getElem? (i := 538) (by decide +kernel)⟩
theorem lw_p14 : lw_okq (⟨"FormPlaces$Pairs", "leastSame", "(I)I"⟩, 8) := ⟨⟨by decide +kernel, by decide +kernel⟩, List.mem_of_getElem? (i := 92) (by decide +kernel), List.mem_of_getElem? (i := 541) (by decide +kernel), List.mem_of_getElem? (i := 542) (by decide +kernel)⟩
theorem lw_p15 : lw_okq (⟨"FormPlaces$Pairs", "meetSame", "(II)Z"⟩, 8) := ⟨⟨by decide +kernel, by decide +kernel⟩, List.mem_of_getElem? (i := 92) (by decide +kernel), List.mem_of_getElem? (i := 545) (by decide +kernel), List.mem_of_getElem? (i := 546) (by decide +kernel)⟩
def lw_privs_1 : List (MethodName × Nat) := [(⟨"FormPlaces", "shelveDraft", "(I)V"⟩, 7), (⟨"FormPlaces$Sum", "vanishesAtReal", "()Z"⟩, 2), (⟨"FormPlaces$Sum", "vanishesAtTwo", "()Z"⟩, 2), (⟨"FormPlaces$Sum", "partVanishes", "(IZ)Z"⟩, 2), (⟨"FormPlaces", "hasTerm", "(II)Z"⟩, 7), (⟨"FormPlaces", "hasForm", "(I)Z"⟩, 7), (⟨"FormPlaces", "leastLike", "(I)I"⟩, 7), (⟨"FormPlaces", "unlikeBits", "(LFormPlaces$Form;LFormPlaces$Form;)I"⟩, 7), (⟨"FormPlaces", "startAgainst", "(LFormPlaces$Form;I)V"⟩, 7), (⟨"FormPlaces$LeastRow", "seek", "(III)V"⟩, 6), (⟨"FormPlaces$LeastRow", "finish", "(III)V"⟩, 6), (⟨"FormPlaces$Pairs", "addIfReduced", "(III)V"⟩, 8), (⟨"FormPlaces$Pairs", "findRests", "(I)V"⟩, 8), (⟨"FormPlaces$Pairs", "addWithSquares", "(II)V"⟩, 8), (⟨"FormPlaces$Pairs", "leastSame", "(I)I"⟩, 8), (⟨"FormPlaces$Pairs", "meetSame", "(II)Z"⟩, 8)]
theorem lw_r1 : ∀ q ∈ lw_privs_1, lw_okq q := List.forall_mem_cons.mpr ⟨lw_p0, List.forall_mem_cons.mpr ⟨lw_p1, List.forall_mem_cons.mpr ⟨lw_p2, List.forall_mem_cons.mpr ⟨lw_p3, List.forall_mem_cons.mpr ⟨lw_p4, List.forall_mem_cons.mpr ⟨lw_p5, List.forall_mem_cons.mpr ⟨lw_p6, List.forall_mem_cons.mpr ⟨lw_p7, List.forall_mem_cons.mpr ⟨lw_p8, List.forall_mem_cons.mpr ⟨lw_p9, List.forall_mem_cons.mpr ⟨lw_p10, List.forall_mem_cons.mpr ⟨lw_p11, List.forall_mem_cons.mpr ⟨lw_p12, List.forall_mem_cons.mpr ⟨lw_p13, List.forall_mem_cons.mpr ⟨lw_p14, List.forall_mem_cons.mpr ⟨lw_p15, fun _ h => absurd h List.not_mem_nil⟩⟩⟩⟩⟩⟩⟩⟩⟩⟩⟩⟩⟩⟩⟩⟩
theorem lw_p16 : lw_okq (⟨"FormPlaces", "countForms", "()I"⟩, 7) := ⟨⟨by decide +kernel, by decide +kernel⟩, List.mem_of_getElem? (i := 14) (by decide +kernel), List.mem_of_getElem? (i := 578) (by decide +kernel), List.mem_of_getElem? (i := 579) (by decide +kernel)⟩
theorem lw_p17 : lw_okq (⟨"FormPlaces", "countTerms", "()I"⟩, 7) := ⟨⟨by decide +kernel, by decide +kernel⟩, List.mem_of_getElem? (i := 14) (by decide +kernel), List.mem_of_getElem? (i := 582) (by decide +kernel), List.mem_of_getElem? (i := 583) (by decide +kernel)⟩
theorem lw_p18 : lw_okq (⟨"FormPlaces", "countUnlike", "()I"⟩, 7) := ⟨⟨by decide +kernel, by decide +kernel⟩, List.mem_of_getElem? (i := 14) (by decide +kernel), List.mem_of_getElem? (i := 586) (by decide +kernel), List.mem_of_getElem? (i := 587) (by decide +kernel)⟩
theorem lw_p19 : lw_okq (⟨"FormPlaces", "mixShelf", "(JI)J"⟩, 7) := ⟨⟨by decide +kernel, by decide +kernel⟩, List.mem_of_getElem? (i := 14) (by decide +kernel), List.mem_of_getElem? (i := 599) (by decide +kernel), List.mem_of_getElem? (i := 600) (by decide +kernel)⟩
theorem lw_p20 : lw_okq (⟨"FormPlacesModel", "read", "()I"⟩, 33) := ⟨⟨by decide +kernel, by decide +kernel⟩, List.mem_of_getElem? (i := 612) (by decide +kernel), List.mem_of_getElem? (i := 734) (by decide +kernel), List.mem_of_getElem? (i := 735) (by decide +kernel)⟩
theorem lw_p21 : lw_okq (⟨"FormPlacesModel", "readNumber", "(I)I"⟩, 33) := ⟨⟨by decide +kernel, by decide +kernel⟩, List.mem_of_getElem? (i := 612) (by decide +kernel), List.mem_of_getElem? (i := 738) (by decide +kernel), List.mem_of_getElem? (i := 739) (by decide +kernel)⟩
theorem lw_p22 : lw_okq (⟨"FormPlacesModel", "letterAt", "(I)I"⟩, 33) := ⟨⟨by decide +kernel, by decide +kernel⟩, List.mem_of_getElem? (i := 612) (by decide +kernel), List.mem_of_getElem? (i := 742) (by decide +kernel), List.mem_of_getElem? (i := 743) (by decide +kernel)⟩
theorem lw_p23 : lw_okq (⟨"FormPlacesModel", "layNew", "(I)I"⟩, 33) := ⟨⟨by decide +kernel, by decide +kernel⟩, List.mem_of_getElem? (i := 612) (by decide +kernel), List.mem_of_getElem? (i := 765) (by decide +kernel), List.mem_of_getElem? (i := 766) (by decide +kernel)⟩
theorem lw_p24 : lw_okq (⟨"FormPlacesModel", "keep", "(I)V"⟩, 33) := ⟨⟨by decide +kernel, by decide +kernel⟩, List.mem_of_getElem? (i := 612) (by decide +kernel), List.mem_of_getElem? (i := 769) (by decide +kernel), List.mem_of_getElem? (i := 770) (by decide +kernel)⟩
theorem lw_p25 : lw_okq (⟨"FormPlacesModel", "dropOldest", "()V"⟩, 33) := ⟨⟨by decide +kernel, by decide +kernel⟩, List.mem_of_getElem? (i := 612) (by decide +kernel), List.mem_of_getElem? (i := 773) (by decide +kernel), List.mem_of_getElem? (i := 774) (by decide +kernel)⟩
theorem lw_p26 : lw_okq (⟨"FormPlacesModel", "symbolNow", "(III)I"⟩, 33) := ⟨⟨by decide +kernel, by decide +kernel⟩, List.mem_of_getElem? (i := 612) (by decide +kernel), List.mem_of_getElem? (i := 801) (by decide +kernel), List.mem_of_getElem? (i := 802) (by decide +kernel)⟩
theorem lw_p27 : lw_okq (⟨"FormPlacesModel", "vanishes", "(I)Z"⟩, 33) := ⟨⟨by decide +kernel, by decide +kernel⟩, List.mem_of_getElem? (i := 612) (by decide +kernel), List.mem_of_getElem? (i := 805) (by decide +kernel), List.mem_of_getElem? (i := 806) (by decide +kernel)⟩
theorem lw_p28 : lw_okq (⟨"FormPlacesModel", "vanishesReal", "()Z"⟩, 33) := ⟨⟨by decide +kernel, by decide +kernel⟩, List.mem_of_getElem? (i := 612) (by decide +kernel), List.mem_of_getElem? (i := 809) (by decide +kernel), List.mem_of_getElem? (i := 810) (by decide +kernel)⟩
theorem lw_p29 : lw_okq (⟨"FormPlacesModel", "addTerm", "(III)V"⟩, 33) := ⟨⟨by decide +kernel, by decide +kernel⟩, List.mem_of_getElem? (i := 612) (by decide +kernel), List.mem_of_getElem? (i := 816) (by decide +kernel), List.mem_of_getElem? (i := 817) (by decide +kernel)⟩
theorem lw_p30 : lw_okq (⟨"FormPlacesModel", "addRests", "(IIII)V"⟩, 33) := ⟨⟨by decide +kernel, by decide +kernel⟩, List.mem_of_getElem? (i := 612) (by decide +kernel), List.mem_of_getElem? (i := 820) (by decide +kernel), List.mem_of_getElem? (i := 821) (by decide +kernel)⟩
theorem lw_p31 : lw_okq (⟨"FormPlacesModel", "isTerm", "(II)Z"⟩, 33) := ⟨⟨by decide +kernel, by decide +kernel⟩, List.mem_of_getElem? (i := 612) (by decide +kernel), List.mem_of_getElem? (i := 835) (by decide +kernel), List.mem_of_getElem? (i := 836) (by decide +kernel)⟩
def lw_privs_2 : List (MethodName × Nat) := [(⟨"FormPlaces", "countForms", "()I"⟩, 7), (⟨"FormPlaces", "countTerms", "()I"⟩, 7), (⟨"FormPlaces", "countUnlike", "()I"⟩, 7), (⟨"FormPlaces", "mixShelf", "(JI)J"⟩, 7), (⟨"FormPlacesModel", "read", "()I"⟩, 33), (⟨"FormPlacesModel", "readNumber", "(I)I"⟩, 33), (⟨"FormPlacesModel", "letterAt", "(I)I"⟩, 33), (⟨"FormPlacesModel", "layNew", "(I)I"⟩, 33), (⟨"FormPlacesModel", "keep", "(I)V"⟩, 33), (⟨"FormPlacesModel", "dropOldest", "()V"⟩, 33), (⟨"FormPlacesModel", "symbolNow", "(III)I"⟩, 33), (⟨"FormPlacesModel", "vanishes", "(I)Z"⟩, 33), (⟨"FormPlacesModel", "vanishesReal", "()Z"⟩, 33), (⟨"FormPlacesModel", "addTerm", "(III)V"⟩, 33), (⟨"FormPlacesModel", "addRests", "(IIII)V"⟩, 33), (⟨"FormPlacesModel", "isTerm", "(II)Z"⟩, 33)]
theorem lw_r2 : ∀ q ∈ lw_privs_2, lw_okq q := List.forall_mem_cons.mpr ⟨lw_p16, List.forall_mem_cons.mpr ⟨lw_p17, List.forall_mem_cons.mpr ⟨lw_p18, List.forall_mem_cons.mpr ⟨lw_p19, List.forall_mem_cons.mpr ⟨lw_p20, List.forall_mem_cons.mpr ⟨lw_p21, List.forall_mem_cons.mpr ⟨lw_p22, List.forall_mem_cons.mpr ⟨lw_p23, List.forall_mem_cons.mpr ⟨lw_p24, List.forall_mem_cons.mpr ⟨lw_p25, List.forall_mem_cons.mpr ⟨lw_p26, List.forall_mem_cons.mpr ⟨lw_p27, List.forall_mem_cons.mpr ⟨lw_p28, List.forall_mem_cons.mpr ⟨lw_p29, List.forall_mem_cons.mpr ⟨lw_p30, List.forall_mem_cons.mpr ⟨lw_p31, fun _ h => absurd h List.not_mem_nil⟩⟩⟩⟩⟩⟩⟩⟩⟩⟩⟩⟩⟩⟩⟩⟩
theorem lw_p32 : lw_okq (⟨"FormPlacesModel", "isForm", "(I)Z"⟩, 33) := ⟨⟨by decide +kernel, by decide +kernel⟩, List.mem_of_getElem? (i := 612) (by decide +kernel), List.mem_of_getElem? (i := 839) (by decide +kernel), List.mem_of_getElem? (i := 840) (by decide +kernel)⟩
theorem lw_p33 : lw_okq (⟨"FormPlacesModel", "aboutNow", "(II)I"⟩, 33) := ⟨⟨by decide +kernel, by decide +kernel⟩, List.mem_of_getElem? (i := 612) (by decide +kernel), List.mem_of_getElem? (i := 847) (by decide +kernel), List.mem_of_getElem? (i := 848) (by decide +kernel)⟩
theorem lw_p34 : lw_okq (⟨"FormPlacesModel", "above", "(I)I"⟩, 33) := ⟨⟨by decide +kernel, by decide +kernel⟩, List.mem_of_getElem? (i := 612) (by decide +kernel), List.mem_of_getElem? (i := 851) (by decide +kernel), List.mem_of_getElem? (i := 852) (by decide +kernel)⟩
theorem lw_p35 : lw_okq (⟨"FormPlacesModel", "det", "(I)I"⟩, 33) := ⟨⟨by decide +kernel, by decide +kernel⟩, List.mem_of_getElem? (i := 612) (by decide +kernel), List.mem_of_getElem? (i := 855) (by decide +kernel), List.mem_of_getElem? (i := 856) (by decide +kernel)⟩
theorem lw_p36 : lw_okq (⟨"FormPlacesModel", "hasseOf", "(I)I"⟩, 33) := ⟨⟨by decide +kernel, by decide +kernel⟩, List.mem_of_getElem? (i := 612) (by decide +kernel), List.mem_of_getElem? (i := 859) (by decide +kernel), List.mem_of_getElem? (i := 860) (by decide +kernel)⟩
theorem lw_p37 : lw_okq (⟨"FormPlacesModel", "layForm", "(I)V"⟩, 33) := ⟨⟨by decide +kernel, by decide +kernel⟩, List.mem_of_getElem? (i := 612) (by decide +kernel), List.mem_of_getElem? (i := 863) (by decide +kernel), List.mem_of_getElem? (i := 864) (by decide +kernel)⟩
theorem lw_p38 : lw_okq (⟨"FormPlacesModel", "unlike", "(II)I"⟩, 33) := ⟨⟨by decide +kernel, by decide +kernel⟩, List.mem_of_getElem? (i := 612) (by decide +kernel), List.mem_of_getElem? (i := 867) (by decide +kernel), List.mem_of_getElem? (i := 868) (by decide +kernel)⟩
theorem lw_p39 : lw_okq (⟨"FormPlacesModel", "lookAt", "(I)V"⟩, 33) := ⟨⟨by decide +kernel, by decide +kernel⟩, List.mem_of_getElem? (i := 612) (by decide +kernel), List.mem_of_getElem? (i := 871) (by decide +kernel), List.mem_of_getElem? (i := 872) (by decide +kernel)⟩
theorem lw_p40 : lw_okq (⟨"FormPlacesModel", "barsNow", "()I"⟩, 33) := ⟨⟨by decide +kernel, by decide +kernel⟩, List.mem_of_getElem? (i := 612) (by decide +kernel), List.mem_of_getElem? (i := 875) (by decide +kernel), List.mem_of_getElem? (i := 876) (by decide +kernel)⟩
theorem lw_p41 : lw_okq (⟨"FormPlacesModel", "barsOf", "(I)I"⟩, 33) := ⟨⟨by decide +kernel, by decide +kernel⟩, List.mem_of_getElem? (i := 612) (by decide +kernel), List.mem_of_getElem? (i := 879) (by decide +kernel), List.mem_of_getElem? (i := 880) (by decide +kernel)⟩
theorem lw_p42 : lw_okq (⟨"FormPlacesModel", "planes", "(I)I"⟩, 33) := ⟨⟨by decide +kernel, by decide +kernel⟩, List.mem_of_getElem? (i := 612) (by decide +kernel), List.mem_of_getElem? (i := 883) (by decide +kernel), List.mem_of_getElem? (i := 884) (by decide +kernel)⟩
theorem lw_p43 : lw_okq (⟨"FormPlacesModel", "restDet", "(I)I"⟩, 33) := ⟨⟨by decide +kernel, by decide +kernel⟩, List.mem_of_getElem? (i := 612) (by decide +kernel), List.mem_of_getElem? (i := 887) (by decide +kernel), List.mem_of_getElem? (i := 888) (by decide +kernel)⟩
theorem lw_p44 : lw_okq (⟨"FormPlacesModel", "restHasse", "(I)I"⟩, 33) := ⟨⟨by decide +kernel, by decide +kernel⟩, List.mem_of_getElem? (i := 612) (by decide +kernel), List.mem_of_getElem? (i := 891) (by decide +kernel), List.mem_of_getElem? (i := 892) (by decide +kernel)⟩
theorem lw_p45 : lw_okq (⟨"FormPlacesModel", "leastLike", "(I)I"⟩, 33) := ⟨⟨by decide +kernel, by decide +kernel⟩, List.mem_of_getElem? (i := 612) (by decide +kernel), List.mem_of_getElem? (i := 895) (by decide +kernel), List.mem_of_getElem? (i := 896) (by decide +kernel)⟩
theorem lw_p46 : lw_okq (⟨"FormPlacesModel", "unlikeOf", "(II)I"⟩, 33) := ⟨⟨by decide +kernel, by decide +kernel⟩, List.mem_of_getElem? (i := 612) (by decide +kernel), List.mem_of_getElem? (i := 899) (by decide +kernel), List.mem_of_getElem? (i := 900) (by decide +kernel)⟩
theorem lw_p47 : lw_okq (⟨"FormPlacesModel", "isLikeAt", "(III)Z"⟩, 33) := ⟨⟨by decide +kernel, by decide +kernel⟩, List.mem_of_getElem? (i := 612) (by decide +kernel), List.mem_of_getElem? (i := 903) (by decide +kernel), List.mem_of_getElem? (i := 904) (by decide +kernel)⟩
def lw_privs_3 : List (MethodName × Nat) := [(⟨"FormPlacesModel", "isForm", "(I)Z"⟩, 33), (⟨"FormPlacesModel", "aboutNow", "(II)I"⟩, 33), (⟨"FormPlacesModel", "above", "(I)I"⟩, 33), (⟨"FormPlacesModel", "det", "(I)I"⟩, 33), (⟨"FormPlacesModel", "hasseOf", "(I)I"⟩, 33), (⟨"FormPlacesModel", "layForm", "(I)V"⟩, 33), (⟨"FormPlacesModel", "unlike", "(II)I"⟩, 33), (⟨"FormPlacesModel", "lookAt", "(I)V"⟩, 33), (⟨"FormPlacesModel", "barsNow", "()I"⟩, 33), (⟨"FormPlacesModel", "barsOf", "(I)I"⟩, 33), (⟨"FormPlacesModel", "planes", "(I)I"⟩, 33), (⟨"FormPlacesModel", "restDet", "(I)I"⟩, 33), (⟨"FormPlacesModel", "restHasse", "(I)I"⟩, 33), (⟨"FormPlacesModel", "leastLike", "(I)I"⟩, 33), (⟨"FormPlacesModel", "unlikeOf", "(II)I"⟩, 33), (⟨"FormPlacesModel", "isLikeAt", "(III)Z"⟩, 33)]
theorem lw_r3 : ∀ q ∈ lw_privs_3, lw_okq q := List.forall_mem_cons.mpr ⟨lw_p32, List.forall_mem_cons.mpr ⟨lw_p33, List.forall_mem_cons.mpr ⟨lw_p34, List.forall_mem_cons.mpr ⟨lw_p35, List.forall_mem_cons.mpr ⟨lw_p36, List.forall_mem_cons.mpr ⟨lw_p37, List.forall_mem_cons.mpr ⟨lw_p38, List.forall_mem_cons.mpr ⟨lw_p39, List.forall_mem_cons.mpr ⟨lw_p40, List.forall_mem_cons.mpr ⟨lw_p41, List.forall_mem_cons.mpr ⟨lw_p42, List.forall_mem_cons.mpr ⟨lw_p43, List.forall_mem_cons.mpr ⟨lw_p44, List.forall_mem_cons.mpr ⟨lw_p45, List.forall_mem_cons.mpr ⟨lw_p46, List.forall_mem_cons.mpr ⟨lw_p47, fun _ h => absurd h List.not_mem_nil⟩⟩⟩⟩⟩⟩⟩⟩⟩⟩⟩⟩⟩⟩⟩⟩
theorem lw_p48 : lw_okq (⟨"FormPlacesModel", "meetsNow", "(II)I"⟩, 33) := ⟨⟨by decide +kernel, by decide +kernel⟩, List.mem_of_getElem? (i := 612) (by decide +kernel), List.mem_of_getElem? (i := 915) (by decide +kernel), List.mem_of_getElem? (i := 916) (by decide +kernel)⟩
theorem lw_p49 : lw_okq (⟨"FormPlacesModel", "lookMore", "(I)V"⟩, 33) := ⟨⟨by decide +kernel, by decide +kernel⟩, List.mem_of_getElem? (i := 612) (by decide +kernel), List.mem_of_getElem? (i := 919) (by decide +kernel), List.mem_of_getElem? (i := 920) (by decide +kernel)⟩
theorem lw_p50 : lw_okq (⟨"FormPlacesModel", "find", "(IZ)Z"⟩, 33) := ⟨⟨by decide +kernel, by decide +kernel⟩, List.mem_of_getElem? (i := 612) (by decide +kernel), List.mem_of_getElem? (i := 927) (by decide +kernel), List.mem_of_getElem? (i := 928) (by decide +kernel)⟩
theorem lw_p51 : lw_okq (⟨"FormPlacesModel", "findBy", "(IZ)Z"⟩, 33) := ⟨⟨by decide +kernel, by decide +kernel⟩, List.mem_of_getElem? (i := 612) (by decide +kernel), List.mem_of_getElem? (i := 931) (by decide +kernel), List.mem_of_getElem? (i := 932) (by decide +kernel)⟩
theorem lw_p52 : lw_okq (⟨"FormPlacesModel", "goesOn", "(I)Z"⟩, 33) := ⟨⟨by decide +kernel, by decide +kernel⟩, List.mem_of_getElem? (i := 612) (by decide +kernel), List.mem_of_getElem? (i := 935) (by decide +kernel), List.mem_of_getElem? (i := 936) (by decide +kernel)⟩
theorem lw_p53 : lw_okq (⟨"FormPlacesModel", "comesToNothing", "(I)Z"⟩, 33) := ⟨⟨by decide +kernel, by decide +kernel⟩, List.mem_of_getElem? (i := 612) (by decide +kernel), List.mem_of_getElem? (i := 939) (by decide +kernel), List.mem_of_getElem? (i := 940) (by decide +kernel)⟩
theorem lw_p54 : lw_okq (⟨"FormPlacesModel", "take", "(I)V"⟩, 33) := ⟨⟨by decide +kernel, by decide +kernel⟩, List.mem_of_getElem? (i := 612) (by decide +kernel), List.mem_of_getElem? (i := 955) (by decide +kernel), List.mem_of_getElem? (i := 956) (by decide +kernel)⟩
theorem lw_p55 : lw_okq (⟨"FormPlacesModel", "addPair", "(II)V"⟩, 33) := ⟨⟨by decide +kernel, by decide +kernel⟩, List.mem_of_getElem? (i := 612) (by decide +kernel), List.mem_of_getElem? (i := 986) (by decide +kernel), List.mem_of_getElem? (i := 987) (by decide +kernel)⟩
theorem lw_p56 : lw_okq (⟨"FormPlacesModel", "layMet", "(I)V"⟩, 33) := ⟨⟨by decide +kernel, by decide +kernel⟩, List.mem_of_getElem? (i := 612) (by decide +kernel), List.mem_of_getElem? (i := 993) (by decide +kernel), List.mem_of_getElem? (i := 994) (by decide +kernel)⟩
theorem lw_p57 : lw_okq (⟨"FormPlacesModel", "isSame", "(II)Z"⟩, 33) := ⟨⟨by decide +kernel, by decide +kernel⟩, List.mem_of_getElem? (i := 612) (by decide +kernel), List.mem_of_getElem? (i := 997) (by decide +kernel), List.mem_of_getElem? (i := 998) (by decide +kernel)⟩
theorem lw_p58 : lw_okq (⟨"FormPlacesModel", "isPair", "(I)Z"⟩, 33) := ⟨⟨by decide +kernel, by decide +kernel⟩, List.mem_of_getElem? (i := 612) (by decide +kernel), List.mem_of_getElem? (i := 1005) (by decide +kernel), List.mem_of_getElem? (i := 1006) (by decide +kernel)⟩
theorem lw_p59 : lw_okq (⟨"FormPlacesModel", "pairNow", "(II)I"⟩, 33) := ⟨⟨by decide +kernel, by decide +kernel⟩, List.mem_of_getElem? (i := 612) (by decide +kernel), List.mem_of_getElem? (i := 1009) (by decide +kernel), List.mem_of_getElem? (i := 1010) (by decide +kernel)⟩
theorem lw_p60 : lw_okq (⟨"FormPlacesModel", "howMany", "(I)I"⟩, 33) := ⟨⟨by decide +kernel, by decide +kernel⟩, List.mem_of_getElem? (i := 612) (by decide +kernel), List.mem_of_getElem? (i := 1025) (by decide +kernel), List.mem_of_getElem? (i := 1026) (by decide +kernel)⟩
theorem lw_p61 : lw_okq (⟨"FormPlacesModel", "shelves", "(I)I"⟩, 33) := ⟨⟨by decide +kernel, by decide +kernel⟩, List.mem_of_getElem? (i := 612) (by decide +kernel), List.mem_of_getElem? (i := 1029) (by decide +kernel), List.mem_of_getElem? (i := 1030) (by decide +kernel)⟩
theorem lw_p62 : lw_okq (⟨"FormPlacesModel", "genera", "()I"⟩, 33) := ⟨⟨by decide +kernel, by decide +kernel⟩, List.mem_of_getElem? (i := 612) (by decide +kernel), List.mem_of_getElem? (i := 1033) (by decide +kernel), List.mem_of_getElem? (i := 1034) (by decide +kernel)⟩
theorem lw_p63 : lw_okq (⟨"FormPlacesModel", "mixForm", "(I)V"⟩, 33) := ⟨⟨by decide +kernel, by decide +kernel⟩, List.mem_of_getElem? (i := 612) (by decide +kernel), List.mem_of_getElem? (i := 1042) (by decide +kernel), List.mem_of_getElem? (i := 1043) (by decide +kernel)⟩
def lw_privs_4 : List (MethodName × Nat) := [(⟨"FormPlacesModel", "meetsNow", "(II)I"⟩, 33), (⟨"FormPlacesModel", "lookMore", "(I)V"⟩, 33), (⟨"FormPlacesModel", "find", "(IZ)Z"⟩, 33), (⟨"FormPlacesModel", "findBy", "(IZ)Z"⟩, 33), (⟨"FormPlacesModel", "goesOn", "(I)Z"⟩, 33), (⟨"FormPlacesModel", "comesToNothing", "(I)Z"⟩, 33), (⟨"FormPlacesModel", "take", "(I)V"⟩, 33), (⟨"FormPlacesModel", "addPair", "(II)V"⟩, 33), (⟨"FormPlacesModel", "layMet", "(I)V"⟩, 33), (⟨"FormPlacesModel", "isSame", "(II)Z"⟩, 33), (⟨"FormPlacesModel", "isPair", "(I)Z"⟩, 33), (⟨"FormPlacesModel", "pairNow", "(II)I"⟩, 33), (⟨"FormPlacesModel", "howMany", "(I)I"⟩, 33), (⟨"FormPlacesModel", "shelves", "(I)I"⟩, 33), (⟨"FormPlacesModel", "genera", "()I"⟩, 33), (⟨"FormPlacesModel", "mixForm", "(I)V"⟩, 33)]
theorem lw_r4 : ∀ q ∈ lw_privs_4, lw_okq q := List.forall_mem_cons.mpr ⟨lw_p48, List.forall_mem_cons.mpr ⟨lw_p49, List.forall_mem_cons.mpr ⟨lw_p50, List.forall_mem_cons.mpr ⟨lw_p51, List.forall_mem_cons.mpr ⟨lw_p52, List.forall_mem_cons.mpr ⟨lw_p53, List.forall_mem_cons.mpr ⟨lw_p54, List.forall_mem_cons.mpr ⟨lw_p55, List.forall_mem_cons.mpr ⟨lw_p56, List.forall_mem_cons.mpr ⟨lw_p57, List.forall_mem_cons.mpr ⟨lw_p58, List.forall_mem_cons.mpr ⟨lw_p59, List.forall_mem_cons.mpr ⟨lw_p60, List.forall_mem_cons.mpr ⟨lw_p61, List.forall_mem_cons.mpr ⟨lw_p62, List.forall_mem_cons.mpr ⟨lw_p63, fun _ h => absurd h List.not_mem_nil⟩⟩⟩⟩⟩⟩⟩⟩⟩⟩⟩⟩⟩⟩⟩⟩
theorem lw_p64 : lw_okq (⟨"FormPlacesModel", "mix", "(J)V"⟩, 33) := ⟨⟨by decide +kernel, by decide +kernel⟩, List.mem_of_getElem? (i := 612) (by decide +kernel), List.mem_of_getElem? (i := 1046) (by decide +kernel), List.mem_of_getElem? (i := 1047) (by decide +kernel)⟩
def lw_privs_5 : List (MethodName × Nat) := [(⟨"FormPlacesModel", "mix", "(J)V"⟩, 33)]
theorem lw_r5 : ∀ q ∈ lw_privs_5, lw_okq q := List.forall_mem_cons.mpr ⟨lw_p64, fun _ h => absurd h List.not_mem_nil⟩
def lw_privs : List (MethodName × Nat) := lw_privs_1 ++ (lw_privs_2 ++ (lw_privs_3 ++ (lw_privs_4 ++ (lw_privs_5))))
def lw_tbl : List Cond := k2_sels lw_privs ++ tables_1
theorem lw_privs_ok : ∀ q ∈ lw_privs, lw_okq q := by
  show ∀ q ∈ lw_privs_1 ++ (lw_privs_2 ++ (lw_privs_3 ++ (lw_privs_4 ++ (lw_privs_5)))), lw_okq q
  exact List.forall_mem_append.mpr ⟨lw_r1, List.forall_mem_append.mpr ⟨lw_r2, List.forall_mem_append.mpr ⟨lw_r3, List.forall_mem_append.mpr ⟨lw_r4, lw_r5⟩⟩⟩⟩
end
section
/-! ===== BEGIN words of one list among another's, by their places ===== -/
theorem goodIn_r {big : List Cond} (ws : List Cond) (ps : List Nat) (hp : ws = ps.filterMap (fun i => big[i]?)) (h : ws.all goodWord = true) : GoodIn big ws := by
  intro w hw
  have h1 := List.all_eq_true.mp h w hw
  rw [hp] at hw
  obtain ⟨i, -, hi⟩ := List.mem_filterMap.mp hw
  have hm : w ∈ big := by first | exact List.mem_of_getElem? hi | exact List.getElem?_mem hi
  exact ⟨hm, good_of_word h1⟩
theorem goodIn_app {big a b : List Cond} (ha : GoodIn big a) (hb : GoodIn big b) : GoodIn big (a ++ b) := fun w h => (List.mem_append.mp h).elim (ha w) (hb w)
theorem goodIn_ca {big a b : List Cond} {c : Cond} (ha : GoodIn big (c :: a)) (hb : GoodIn big b) : GoodIn big (c :: (a ++ b)) := fun w h => (List.mem_cons.mp h).elim (fun e => ha w (List.mem_cons.mpr (Or.inl e))) (fun h => (List.mem_append.mp h).elim (fun h => ha w (List.mem_cons.mpr (Or.inr h))) (hb w))
theorem goodIn_sub {big ws : List Cond} (hm : ∀ w ∈ ws, w ∈ big) (h : ws.all goodWord = true) : GoodIn big ws := fun w hw => ⟨hm w hw, good_of_word (List.all_eq_true.mp h w hw)⟩
/-! ===== END ===== -/

/-! ===== BEGIN printed: names, fields, word lists, decode rows ===== -/
def RX0 : String := "FormPlaces$Form"
def TX0 : u_T := fun k => match k with
  | 0 => ("FormPlaces$Form", "terms", "[I", true)
  | 1 => ("FormPlaces$Form", "rank", "I", false)
  | 2 => ("FormPlaces$Form", "hasse", "I", false)
  | _ => ("FormPlaces$Form", "bars", "I", false)
def tyX0 : Nat → FieldType := fun k => match k with
  | 0 => .array .int
  | 1 => .int
  | 2 => .int
  | _ => .int
abbrev wsX00 : List Cond := u_ws RX0 TX0 4
theorem nmX0 : ∀ a, a < 4 → ∀ b, b < 4 → a ≠ b → (TX0 a).2.1 ≠ (TX0 b).2.1 := by decide +kernel
theorem tyX0_ok : ∀ k, k < 4 → parseFieldDescriptor (TX0 k).2.2.1 = some (tyX0 k) := by decide +kernel
abbrev cX0_init : ByteArray := prog_2_method_1_code
def yX0_init : MethodName := ⟨RX0, "<init>", "()V"⟩
abbrev cX0_empty : ByteArray := prog_2_method_2_code
def yX0_empty : MethodName := ⟨RX0, "empty", "()V"⟩
abbrev cX0_add : ByteArray := prog_2_method_3_code
def yX0_add : MethodName := ⟨RX0, "add", "(I)V"⟩
abbrev cX0_addTimes : ByteArray := prog_2_method_4_code
def yX0_addTimes : MethodName := ⟨RX0, "addTimes", "(LFormPlaces$Form;I)V"⟩
abbrev cX0_change : ByteArray := prog_2_method_5_code
def yX0_change : MethodName := ⟨RX0, "change", "(II)V"⟩
abbrev cX0_kindAt : ByteArray := prog_2_method_6_code
def yX0_kindAt : MethodName := ⟨RX0, "kindAt", "(I)I"⟩
abbrev cX0_copy : ByteArray := prog_2_method_7_code
def yX0_copy : MethodName := ⟨RX0, "copy", "(LFormPlaces$Form;)V"⟩
abbrev cX0_settle : ByteArray := prog_2_method_8_code
def yX0_settle : MethodName := ⟨RX0, "settle", "(LFormPlaces$Sum;)V"⟩
abbrev cX0_countAbove : ByteArray := prog_2_method_9_code
def yX0_countAbove : MethodName := ⟨RX0, "countAbove", "()I"⟩
abbrev cX0_det : ByteArray := prog_2_method_10_code
def yX0_det : MethodName := ⟨RX0, "det", "()I"⟩
abbrev cX0_isLike : ByteArray := prog_2_method_11_code
def yX0_isLike : MethodName := ⟨RX0, "isLike", "(LFormPlaces$Form;)Z"⟩
abbrev cX0_planes : ByteArray := prog_2_method_12_code
def yX0_planes : MethodName := ⟨RX0, "planes", "()I"⟩
abbrev cX0_restDet : ByteArray := prog_2_method_13_code
def yX0_restDet : MethodName := ⟨RX0, "restDet", "()I"⟩
abbrev cX0_restHasse : ByteArray := prog_2_method_14_code
def yX0_restHasse : MethodName := ⟨RX0, "restHasse", "(LFormPlaces$Sum;)I"⟩
def RX1 : String := "FormPlaces$LeastRow"
def TX1 : u_T := fun k => match k with
  | 0 => ("FormPlaces$LeastRow", "sum", "LFormPlaces$Sum;", true)
  | 1 => ("FormPlaces$LeastRow", "numbers", "[I", true)
  | 2 => ("FormPlaces$LeastRow", "best", "[I", true)
  | 3 => ("FormPlaces$LeastRow", "bound", "I", false)
  | 4 => ("FormPlaces$LeastRow", "lastNotZero", "Z", false)
  | _ => ("FormPlaces$LeastRow", "found", "Z", false)
def tyX1 : Nat → FieldType := fun k => match k with
  | 0 => .object "FormPlaces$Sum"
  | 1 => .array .int
  | 2 => .array .int
  | 3 => .int
  | 4 => .boolean
  | _ => .boolean
abbrev wsX10 : List Cond := u_ws RX1 TX1 6
theorem nmX1 : ∀ a, a < 6 → ∀ b, b < 6 → a ≠ b → (TX1 a).2.1 ≠ (TX1 b).2.1 := by decide +kernel
theorem tyX1_ok : ∀ k, k < 6 → parseFieldDescriptor (TX1 k).2.2.1 = some (tyX1 k) := by decide +kernel
abbrev cX1_init : ByteArray := prog_3_method_1_code
def yX1_init : MethodName := ⟨RX1, "<init>", "(LFormPlaces$Sum;)V"⟩
abbrev cX1_find : ByteArray := prog_3_method_2_code
def yX1_find : MethodName := ⟨RX1, "find", "(IZ)Z"⟩
abbrev cX1_numberAt : ByteArray := prog_3_method_3_code
def yX1_numberAt : MethodName := ⟨RX1, "numberAt", "(I)I"⟩
abbrev cX1_seek : ByteArray := prog_3_method_4_code
def yX1_seek : MethodName := ⟨RX1, "seek", "(III)V"⟩
abbrev cX1_finish : ByteArray := prog_3_method_5_code
def yX1_finish : MethodName := ⟨RX1, "finish", "(III)V"⟩
def RX2 : String := "FormPlaces$Numbers"
def TX2 : u_T := fun k => match k with
  | _ => ("", "", "", false)
def tyX2 : Nat → FieldType := fun k => match k with
  | _ => .int
abbrev wsX20 : List Cond := u_ws RX2 TX2 0
theorem nmX2 : ∀ a, a < 0 → ∀ b, b < 0 → a ≠ b → (TX2 a).2.1 ≠ (TX2 b).2.1 := by decide +kernel
theorem tyX2_ok : ∀ k, k < 0 → parseFieldDescriptor (TX2 k).2.2.1 = some (tyX2 k) := by decide +kernel
abbrev cX2_coreOf : ByteArray := prog_4_method_2_code
def yX2_coreOf : MethodName := ⟨RX2, "coreOf", "(I)I"⟩
abbrev cX2_kindOf : ByteArray := prog_4_method_3_code
def yX2_kindOf : MethodName := ⟨RX2, "kindOf", "(I)I"⟩
abbrev cX2_roughPart : ByteArray := prog_4_method_4_code
def yX2_roughPart : MethodName := ⟨RX2, "roughPart", "(I)I"⟩
abbrev cX2_isNumber : ByteArray := prog_4_method_5_code
def yX2_isNumber : MethodName := ⟨RX2, "isNumber", "(I)Z"⟩
abbrev cX2_isSquareTimesCore : ByteArray := prog_4_method_6_code
def yX2_isSquareTimesCore : MethodName := ⟨RX2, "isSquareTimesCore", "(I)Z"⟩
abbrev cX2_rootOf : ByteArray := prog_4_method_7_code
def yX2_rootOf : MethodName := ⟨RX2, "rootOf", "(I)I"⟩
abbrev cX2_commonPart : ByteArray := prog_4_method_8_code
def yX2_commonPart : MethodName := ⟨RX2, "commonPart", "(II)I"⟩
def RX3 : String := "FormPlaces$Page"
def TX3 : u_T := fun k => match k with
  | 0 => ("FormPlaces$Page", "codes", "[I", true)
  | _ => ("FormPlaces$Page", "length", "I", false)
def tyX3 : Nat → FieldType := fun k => match k with
  | 0 => .array .int
  | _ => .int
abbrev wsX30 : List Cond := u_ws RX3 TX3 2
theorem nmX3 : ∀ a, a < 2 → ∀ b, b < 2 → a ≠ b → (TX3 a).2.1 ≠ (TX3 b).2.1 := by decide +kernel
theorem tyX3_ok : ∀ k, k < 2 → parseFieldDescriptor (TX3 k).2.2.1 = some (tyX3 k) := by decide +kernel
abbrev cX3_init : ByteArray := prog_5_method_1_code
def yX3_init : MethodName := ⟨RX3, "<init>", "()V"⟩
abbrev cX3_write : ByteArray := prog_5_method_2_code
def yX3_write : MethodName := ⟨RX3, "write", "(I)Z"⟩
abbrev cX3_codeAt : ByteArray := prog_5_method_3_code
def yX3_codeAt : MethodName := ⟨RX3, "codeAt", "(I)I"⟩
abbrev cX3_endsInDigit : ByteArray := prog_5_method_4_code
def yX3_endsInDigit : MethodName := ⟨RX3, "endsInDigit", "()Z"⟩
abbrev cX3_readInto : ByteArray := prog_5_method_5_code
def yX3_readInto : MethodName := ⟨RX3, "readInto", "(LFormPlaces$Form;)I"⟩
abbrev cX3_isDigit : ByteArray := prog_5_method_6_code
def yX3_isDigit : MethodName := ⟨RX3, "isDigit", "(I)Z"⟩
abbrev cX3_goesOn : ByteArray := prog_5_method_7_code
def yX3_goesOn : MethodName := ⟨RX3, "goesOn", "(II)Z"⟩
def RX4 : String := "FormPlaces$Pairs"
def TX4 : u_T := fun k => match k with
  | 0 => ("FormPlaces$Pairs", "first", "[I", true)
  | 1 => ("FormPlaces$Pairs", "middle", "[I", true)
  | 2 => ("FormPlaces$Pairs", "last", "[I", true)
  | 3 => ("FormPlaces$Pairs", "genus", "[I", true)
  | 4 => ("FormPlaces$Pairs", "rests", "[J", true)
  | 5 => ("FormPlaces$Pairs", "apart", "[Z", true)
  | 6 => ("FormPlaces$Pairs", "n", "I", false)
  | _ => ("FormPlaces$Pairs", "size", "I", false)
def tyX4 : Nat → FieldType := fun k => match k with
  | 0 => .array .int
  | 1 => .array .int
  | 2 => .array .int
  | 3 => .array .int
  | 4 => .array .long
  | 5 => .array .boolean
  | 6 => .int
  | _ => .int
abbrev wsX40 : List Cond := u_ws RX4 TX4 8
theorem nmX4 : ∀ a, a < 8 → ∀ b, b < 8 → a ≠ b → (TX4 a).2.1 ≠ (TX4 b).2.1 := by decide +kernel
theorem tyX4_ok : ∀ k, k < 8 → parseFieldDescriptor (TX4 k).2.2.1 = some (tyX4 k) := by decide +kernel
abbrev cX4_init : ByteArray := prog_6_method_1_code
def yX4_init : MethodName := ⟨RX4, "<init>", "()V"⟩
abbrev cX4_has : ByteArray := prog_6_method_2_code
def yX4_has : MethodName := ⟨RX4, "has", "(I)Z"⟩
abbrev cX4_open : ByteArray := prog_6_method_3_code
def yX4_open : MethodName := ⟨RX4, "open", "(I)V"⟩
abbrev cX4_isMet : ByteArray := prog_6_method_4_code
def yX4_isMet : MethodName := ⟨RX4, "isMet", "(II)Z"⟩
abbrev cX4_countMet : ByteArray := prog_6_method_5_code
def yX4_countMet : MethodName := ⟨RX4, "countMet", "(I)I"⟩
abbrev cX4_countGenera : ByteArray := prog_6_method_6_code
def yX4_countGenera : MethodName := ⟨RX4, "countGenera", "()I"⟩
abbrev cX4_addIfReduced : ByteArray := prog_6_method_7_code
def yX4_addIfReduced : MethodName := ⟨RX4, "addIfReduced", "(III)V"⟩
abbrev cX4_findRests : ByteArray := prog_6_method_8_code
def yX4_findRests : MethodName := ⟨RX4, "findRests", "(I)V"⟩
abbrev cX4_addWithSquares : ByteArray := prog_6_method_9_code
def yX4_addWithSquares : MethodName := ⟨RX4, "addWithSquares", "(II)V"⟩
abbrev cX4_leastSame : ByteArray := prog_6_method_10_code
def yX4_leastSame : MethodName := ⟨RX4, "leastSame", "(I)I"⟩
abbrev cX4_meetSame : ByteArray := prog_6_method_11_code
def yX4_meetSame : MethodName := ⟨RX4, "meetSame", "(II)Z"⟩
def RX5 : String := "FormPlaces$Steps"
def TX5 : u_T := fun k => match k with
  | 0 => ("FormPlaces$Steps", "shelfOf", "[I", true)
  | 1 => ("FormPlaces$Steps", "before", "[LFormPlaces$Form;", true)
  | 2 => ("FormPlaces$Steps", "next", "I", false)
  | 3 => ("FormPlaces$Steps", "kept", "I", false)
  | 4 => ("FormPlaces$Steps", "done", "I", false)
  | _ => ("FormPlaces$Steps", "undone", "I", false)
def tyX5 : Nat → FieldType := fun k => match k with
  | 0 => .array .int
  | 1 => .array (.object "FormPlaces$Form")
  | 2 => .int
  | 3 => .int
  | 4 => .int
  | _ => .int
abbrev wsX50 : List Cond := u_ws RX5 TX5 6
theorem nmX5 : ∀ a, a < 6 → ∀ b, b < 6 → a ≠ b → (TX5 a).2.1 ≠ (TX5 b).2.1 := by decide +kernel
theorem tyX5_ok : ∀ k, k < 6 → parseFieldDescriptor (TX5 k).2.2.1 = some (tyX5 k) := by decide +kernel
abbrev cX5_init : ByteArray := prog_7_method_1_code
def yX5_init : MethodName := ⟨RX5, "<init>", "()V"⟩
abbrev cX5_keep : ByteArray := prog_7_method_2_code
def yX5_keep : MethodName := ⟨RX5, "keep", "(ILFormPlaces$Form;)V"⟩
abbrev cX5_takeBack : ByteArray := prog_7_method_3_code
def yX5_takeBack : MethodName := ⟨RX5, "takeBack", "(LFormPlaces$Form;)I"⟩
def RX6 : String := "FormPlaces$Sum"
def TX6 : u_T := fun k => match k with
  | 0 => ("FormPlaces$Sum", "cores", "[I", true)
  | _ => ("FormPlaces$Sum", "size", "I", false)
def tyX6 : Nat → FieldType := fun k => match k with
  | 0 => .array .int
  | _ => .int
abbrev wsX60 : List Cond := u_ws RX6 TX6 2
theorem nmX6 : ∀ a, a < 2 → ∀ b, b < 2 → a ≠ b → (TX6 a).2.1 ≠ (TX6 b).2.1 := by decide +kernel
theorem tyX6_ok : ∀ k, k < 2 → parseFieldDescriptor (TX6 k).2.2.1 = some (tyX6 k) := by decide +kernel
abbrev cX6_init : ByteArray := prog_8_method_1_code
def yX6_init : MethodName := ⟨RX6, "<init>", "()V"⟩
abbrev cX6_start : ByteArray := prog_8_method_2_code
def yX6_start : MethodName := ⟨RX6, "start", "()V"⟩
abbrev cX6_add : ByteArray := prog_8_method_3_code
def yX6_add : MethodName := ⟨RX6, "add", "(I)V"⟩
abbrev cX6_addAll : ByteArray := prog_8_method_4_code
def yX6_addAll : MethodName := ⟨RX6, "addAll", "(LFormPlaces$Form;)V"⟩
abbrev cX6_symbolBits : ByteArray := prog_8_method_5_code
def yX6_symbolBits : MethodName := ⟨RX6, "symbolBits", "(II)I"⟩
abbrev cX6_unsquareBits : ByteArray := prog_8_method_6_code
def yX6_unsquareBits : MethodName := ⟨RX6, "unsquareBits", "(I)I"⟩
abbrev cX6_bars : ByteArray := prog_8_method_7_code
def yX6_bars : MethodName := ⟨RX6, "bars", "()I"⟩
abbrev cX6_vanishesAtReal : ByteArray := prog_8_method_8_code
def yX6_vanishesAtReal : MethodName := ⟨RX6, "vanishesAtReal", "()Z"⟩
abbrev cX6_vanishesAtTwo : ByteArray := prog_8_method_9_code
def yX6_vanishesAtTwo : MethodName := ⟨RX6, "vanishesAtTwo", "()Z"⟩
abbrev cX6_turned : ByteArray := prog_8_method_10_code
def yX6_turned : MethodName := ⟨RX6, "turned", "(II)I"⟩
abbrev cX6_partVanishes : ByteArray := prog_8_method_11_code
def yX6_partVanishes : MethodName := ⟨RX6, "partVanishes", "(IZ)Z"⟩
def RX7 : String := "FormPlaces"
def TX7 : u_T := fun k => match k with
  | 0 => ("FormPlaces", "page", "LFormPlaces$Page;", true)
  | 1 => ("FormPlaces", "shelves", "[LFormPlaces$Form;", true)
  | 2 => ("FormPlaces", "draft", "LFormPlaces$Form;", true)
  | 3 => ("FormPlaces", "steps", "LFormPlaces$Steps;", true)
  | 4 => ("FormPlaces", "opened", "LFormPlaces$Pairs;", true)
  | 5 => ("FormPlaces", "sum", "LFormPlaces$Sum;", true)
  | _ => ("FormPlaces", "least", "LFormPlaces$LeastRow;", true)
def tyX7 : Nat → FieldType := fun k => match k with
  | 0 => .object "FormPlaces$Page"
  | 1 => .array (.object "FormPlaces$Form")
  | 2 => .object "FormPlaces$Form"
  | 3 => .object "FormPlaces$Steps"
  | 4 => .object "FormPlaces$Pairs"
  | 5 => .object "FormPlaces$Sum"
  | _ => .object "FormPlaces$LeastRow"
abbrev wsX70 : List Cond := u_ws RX7 TX7 7
theorem nmX7 : ∀ a, a < 7 → ∀ b, b < 7 → a ≠ b → (TX7 a).2.1 ≠ (TX7 b).2.1 := by decide +kernel
theorem tyX7_ok : ∀ k, k < 7 → parseFieldDescriptor (TX7 k).2.2.1 = some (tyX7 k) := by decide +kernel
abbrev cX7_init : ByteArray := prog_1_method_1_code
def yX7_init : MethodName := ⟨RX7, "<init>", "()V"⟩
abbrev cX7_letter : ByteArray := prog_1_method_2_code
def yX7_letter : MethodName := ⟨RX7, "letter", "(I)I"⟩
abbrev cX7_blank : ByteArray := prog_1_method_3_code
def yX7_blank : MethodName := ⟨RX7, "blank", "()I"⟩
abbrev cX7_fault : ByteArray := prog_1_method_4_code
def yX7_fault : MethodName := ⟨RX7, "fault", "()I"⟩
abbrev cX7_put : ByteArray := prog_1_method_5_code
def yX7_put : MethodName := ⟨RX7, "put", "(I)I"⟩
abbrev cX7_classOf : ByteArray := prog_1_method_6_code
def yX7_classOf : MethodName := ⟨RX7, "classOf", "(I)I"⟩
abbrev cX7_core : ByteArray := prog_1_method_7_code
def yX7_core : MethodName := ⟨RX7, "core", "(I)I"⟩
abbrev cX7_symbol : ByteArray := prog_1_method_8_code
def yX7_symbol : MethodName := ⟨RX7, "symbol", "(III)I"⟩
abbrev cX7_square : ByteArray := prog_1_method_9_code
def yX7_square : MethodName := ⟨RX7, "square", "(II)I"⟩
abbrev cX7_at : ByteArray := prog_1_method_10_code
def yX7_at : MethodName := ⟨RX7, "at", "(II)I"⟩
abbrev cX7_about : ByteArray := prog_1_method_11_code
def yX7_about : MethodName := ⟨RX7, "about", "(II)I"⟩
abbrev cX7_like : ByteArray := prog_1_method_12_code
def yX7_like : MethodName := ⟨RX7, "like", "(II)I"⟩
abbrev cX7_meets : ByteArray := prog_1_method_13_code
def yX7_meets : MethodName := ⟨RX7, "meets", "(II)I"⟩
abbrev cX7_row : ByteArray := prog_1_method_14_code
def yX7_row : MethodName := ⟨RX7, "row", "(II)I"⟩
abbrev cX7_way : ByteArray := prog_1_method_15_code
def yX7_way : MethodName := ⟨RX7, "way", "(III)I"⟩
abbrev cX7_clear : ByteArray := prog_1_method_16_code
def yX7_clear : MethodName := ⟨RX7, "clear", "(I)I"⟩
abbrev cX7_join : ByteArray := prog_1_method_17_code
def yX7_join : MethodName := ⟨RX7, "join", "(III)I"⟩
abbrev cX7_times : ByteArray := prog_1_method_18_code
def yX7_times : MethodName := ⟨RX7, "times", "(III)I"⟩
abbrev cX7_scale : ByteArray := prog_1_method_19_code
def yX7_scale : MethodName := ⟨RX7, "scale", "(II)I"⟩
abbrev cX7_turn : ByteArray := prog_1_method_20_code
def yX7_turn : MethodName := ⟨RX7, "turn", "(IIIII)I"⟩
abbrev cX7_drop : ByteArray := prog_1_method_21_code
def yX7_drop : MethodName := ⟨RX7, "drop", "(II)I"⟩
abbrev cX7_undo : ByteArray := prog_1_method_22_code
def yX7_undo : MethodName := ⟨RX7, "undo", "()I"⟩
abbrev cX7_pairs : ByteArray := prog_1_method_23_code
def yX7_pairs : MethodName := ⟨RX7, "pairs", "(I)I"⟩
abbrev cX7_pair : ByteArray := prog_1_method_24_code
def yX7_pair : MethodName := ⟨RX7, "pair", "(II)I"⟩
abbrev cX7_met : ByteArray := prog_1_method_25_code
def yX7_met : MethodName := ⟨RX7, "met", "(II)I"⟩
abbrev cX7_lay : ByteArray := prog_1_method_26_code
def yX7_lay : MethodName := ⟨RX7, "lay", "(II)I"⟩
abbrev cX7_count : ByteArray := prog_1_method_27_code
def yX7_count : MethodName := ⟨RX7, "count", "(I)I"⟩
abbrev cX7_digest : ByteArray := prog_1_method_28_code
def yX7_digest : MethodName := ⟨RX7, "digest", "()J"⟩
abbrev cX7_isShelf : ByteArray := prog_1_method_29_code
def yX7_isShelf : MethodName := ⟨RX7, "isShelf", "(I)Z"⟩
abbrev cX7_isPlace : ByteArray := prog_1_method_30_code
def yX7_isPlace : MethodName := ⟨RX7, "isPlace", "(I)Z"⟩
abbrev cX7_isKind : ByteArray := prog_1_method_31_code
def yX7_isKind : MethodName := ⟨RX7, "isKind", "(I)Z"⟩
abbrev cX7_mix : ByteArray := prog_1_method_32_code
def yX7_mix : MethodName := ⟨RX7, "mix", "(JI)J"⟩
abbrev cX7_hasForm : ByteArray := prog_1_method_33_code
def yX7_hasForm : MethodName := ⟨RX7, "hasForm", "(I)Z"⟩
abbrev cX7_hasTerm : ByteArray := prog_1_method_34_code
def yX7_hasTerm : MethodName := ⟨RX7, "hasTerm", "(II)Z"⟩
abbrev cX7_shelveDraft : ByteArray := prog_1_method_35_code
def yX7_shelveDraft : MethodName := ⟨RX7, "shelveDraft", "(I)V"⟩
abbrev cX7_startAgainst : ByteArray := prog_1_method_36_code
def yX7_startAgainst : MethodName := ⟨RX7, "startAgainst", "(LFormPlaces$Form;I)V"⟩
abbrev cX7_unlikeBits : ByteArray := prog_1_method_37_code
def yX7_unlikeBits : MethodName := ⟨RX7, "unlikeBits", "(LFormPlaces$Form;LFormPlaces$Form;)I"⟩
abbrev cX7_leastLike : ByteArray := prog_1_method_38_code
def yX7_leastLike : MethodName := ⟨RX7, "leastLike", "(I)I"⟩
abbrev cX7_countForms : ByteArray := prog_1_method_39_code
def yX7_countForms : MethodName := ⟨RX7, "countForms", "()I"⟩
abbrev cX7_countTerms : ByteArray := prog_1_method_40_code
def yX7_countTerms : MethodName := ⟨RX7, "countTerms", "()I"⟩
abbrev cX7_countUnlike : ByteArray := prog_1_method_41_code
def yX7_countUnlike : MethodName := ⟨RX7, "countUnlike", "()I"⟩
abbrev cX7_mixShelf : ByteArray := prog_1_method_42_code
def yX7_mixShelf : MethodName := ⟨RX7, "mixShelf", "(JI)J"⟩
def RX8 : String := "FormPlacesModel"
def TX8 : u_T := fun k => match k with
  | 0 => ("FormPlacesModel", "rank", "[I", true)
  | 1 => ("FormPlacesModel", "terms", "[I", true)
  | 2 => ("FormPlacesModel", "isLaid", "[Z", true)
  | 3 => ("FormPlacesModel", "hasse", "[I", true)
  | 4 => ("FormPlacesModel", "bars", "[I", true)
  | 5 => ("FormPlacesModel", "pageLength", "I", false)
  | 6 => ("FormPlacesModel", "page", "[B", true)
  | 7 => ("FormPlacesModel", "kept", "I", false)
  | 8 => ("FormPlacesModel", "keptShelf", "[I", true)
  | 9 => ("FormPlacesModel", "keptRank", "[I", true)
  | 10 => ("FormPlacesModel", "keptTerms", "[I", true)
  | 11 => ("FormPlacesModel", "done", "I", false)
  | 12 => ("FormPlacesModel", "undone", "I", false)
  | 13 => ("FormPlacesModel", "open", "I", false)
  | 14 => ("FormPlacesModel", "pairs", "I", false)
  | 15 => ("FormPlacesModel", "pairA", "[I", true)
  | 16 => ("FormPlacesModel", "pairB", "[I", true)
  | 17 => ("FormPlacesModel", "pairC", "[I", true)
  | 18 => ("FormPlacesModel", "genus", "[I", true)
  | 19 => ("FormPlacesModel", "many", "[I", true)
  | 20 => ("FormPlacesModel", "isMet", "[Z", true)
  | 21 => ("FormPlacesModel", "looked", "I", false)
  | 22 => ("FormPlacesModel", "look", "[I", true)
  | 23 => ("FormPlacesModel", "bare", "[Z", true)
  | 24 => ("FormPlacesModel", "full", "[Z", true)
  | 25 => ("FormPlacesModel", "nextBare", "[Z", true)
  | 26 => ("FormPlacesModel", "nextFull", "[Z", true)
  | 27 => ("FormPlacesModel", "isWhole", "Z", false)
  | 28 => ("FormPlacesModel", "newRank", "I", false)
  | 29 => ("FormPlacesModel", "newTerms", "[I", true)
  | 30 => ("FormPlacesModel", "row", "[I", true)
  | 31 => ("FormPlacesModel", "cores", "[I", true)
  | _ => ("FormPlacesModel", "h", "J", false)
def tyX8 : Nat → FieldType := fun k => match k with
  | 0 => .array .int
  | 1 => .array .int
  | 2 => .array .boolean
  | 3 => .array .int
  | 4 => .array .int
  | 5 => .int
  | 6 => .array .byte
  | 7 => .int
  | 8 => .array .int
  | 9 => .array .int
  | 10 => .array .int
  | 11 => .int
  | 12 => .int
  | 13 => .int
  | 14 => .int
  | 15 => .array .int
  | 16 => .array .int
  | 17 => .array .int
  | 18 => .array .int
  | 19 => .array .int
  | 20 => .array .boolean
  | 21 => .int
  | 22 => .array .int
  | 23 => .array .boolean
  | 24 => .array .boolean
  | 25 => .array .boolean
  | 26 => .array .boolean
  | 27 => .boolean
  | 28 => .int
  | 29 => .array .int
  | 30 => .array .int
  | 31 => .array .int
  | _ => .long
abbrev wsX80 : List Cond := u_ws RX8 TX8 33
theorem nmX8 : ∀ a, a < 33 → ∀ b, b < 33 → a ≠ b → (TX8 a).2.1 ≠ (TX8 b).2.1 := by decide +kernel
theorem tyX8_ok : ∀ k, k < 33 → parseFieldDescriptor (TX8 k).2.2.1 = some (tyX8 k) := by decide +kernel
abbrev cX8_init : ByteArray := prog_10_method_1_code
def yX8_init : MethodName := ⟨RX8, "<init>", "()V"⟩
abbrev cX8_within : ByteArray := prog_10_method_3_code
def yX8_within : MethodName := ⟨RX8, "within", "(III)Z"⟩
abbrev cX8_isIn : ByteArray := prog_10_method_4_code
def yX8_isIn : MethodName := ⟨RX8, "isIn", "(II)Z"⟩
abbrev cX8_primeAt : ByteArray := prog_10_method_5_code
def yX8_primeAt : MethodName := ⟨RX8, "primeAt", "(I)I"⟩
abbrev cX8_modAt : ByteArray := prog_10_method_6_code
def yX8_modAt : MethodName := ⟨RX8, "modAt", "(I)I"⟩
abbrev cX8_coreOf : ByteArray := prog_10_method_7_code
def yX8_coreOf : MethodName := ⟨RX8, "coreOf", "(I)I"⟩
abbrev cX8_leftOf : ByteArray := prog_10_method_8_code
def yX8_leftOf : MethodName := ⟨RX8, "leftOf", "(I)I"⟩
abbrev cX8_kindOf : ByteArray := prog_10_method_9_code
def yX8_kindOf : MethodName := ⟨RX8, "kindOf", "(I)I"⟩
abbrev cX8_isNumber : ByteArray := prog_10_method_10_code
def yX8_isNumber : MethodName := ⟨RX8, "isNumber", "(I)Z"⟩
abbrev cX8_isKind : ByteArray := prog_10_method_11_code
def yX8_isKind : MethodName := ⟨RX8, "isKind", "(I)Z"⟩
abbrev cX8_isPlace : ByteArray := prog_10_method_12_code
def yX8_isPlace : MethodName := ⟨RX8, "isPlace", "(I)Z"⟩
abbrev cX8_isSquare : ByteArray := prog_10_method_13_code
def yX8_isSquare : MethodName := ⟨RX8, "isSquare", "(II)Z"⟩
abbrev cX8_addRests : ByteArray := prog_10_method_14_code
def yX8_addRests : MethodName := ⟨RX8, "addRests", "(IIII)V"⟩
abbrev cX8_addTerm : ByteArray := prog_10_method_15_code
def yX8_addTerm : MethodName := ⟨RX8, "addTerm", "(III)V"⟩
abbrev cX8_vanishesReal : ByteArray := prog_10_method_16_code
def yX8_vanishesReal : MethodName := ⟨RX8, "vanishesReal", "()Z"⟩
abbrev cX8_vanishes : ByteArray := prog_10_method_17_code
def yX8_vanishes : MethodName := ⟨RX8, "vanishes", "(I)Z"⟩
abbrev cX8_barsNow : ByteArray := prog_10_method_18_code
def yX8_barsNow : MethodName := ⟨RX8, "barsNow", "()I"⟩
abbrev cX8_symbolNow : ByteArray := prog_10_method_19_code
def yX8_symbolNow : MethodName := ⟨RX8, "symbolNow", "(III)I"⟩
abbrev cX8_unlike : ByteArray := prog_10_method_20_code
def yX8_unlike : MethodName := ⟨RX8, "unlike", "(II)I"⟩
abbrev cX8_letter : ByteArray := prog_10_method_21_code
def yX8_letter : MethodName := ⟨RX8, "letter", "(I)I"⟩
abbrev cX8_blank : ByteArray := prog_10_method_22_code
def yX8_blank : MethodName := ⟨RX8, "blank", "()I"⟩
abbrev cX8_letterAt : ByteArray := prog_10_method_23_code
def yX8_letterAt : MethodName := ⟨RX8, "letterAt", "(I)I"⟩
abbrev cX8_readNumber : ByteArray := prog_10_method_24_code
def yX8_readNumber : MethodName := ⟨RX8, "readNumber", "(I)I"⟩
abbrev cX8_read : ByteArray := prog_10_method_25_code
def yX8_read : MethodName := ⟨RX8, "read", "()I"⟩
abbrev cX8_fault : ByteArray := prog_10_method_26_code
def yX8_fault : MethodName := ⟨RX8, "fault", "()I"⟩
abbrev cX8_isShelf : ByteArray := prog_10_method_27_code
def yX8_isShelf : MethodName := ⟨RX8, "isShelf", "(I)Z"⟩
abbrev cX8_isForm : ByteArray := prog_10_method_28_code
def yX8_isForm : MethodName := ⟨RX8, "isForm", "(I)Z"⟩
abbrev cX8_isTerm : ByteArray := prog_10_method_29_code
def yX8_isTerm : MethodName := ⟨RX8, "isTerm", "(II)Z"⟩
abbrev cX8_dropOldest : ByteArray := prog_10_method_30_code
def yX8_dropOldest : MethodName := ⟨RX8, "dropOldest", "()V"⟩
abbrev cX8_keep : ByteArray := prog_10_method_31_code
def yX8_keep : MethodName := ⟨RX8, "keep", "(I)V"⟩
abbrev cX8_layNew : ByteArray := prog_10_method_32_code
def yX8_layNew : MethodName := ⟨RX8, "layNew", "(I)I"⟩
abbrev cX8_take : ByteArray := prog_10_method_33_code
def yX8_take : MethodName := ⟨RX8, "take", "(I)V"⟩
abbrev cX8_put : ByteArray := prog_10_method_34_code
def yX8_put : MethodName := ⟨RX8, "put", "(I)I"⟩
abbrev cX8_classOf : ByteArray := prog_10_method_35_code
def yX8_classOf : MethodName := ⟨RX8, "classOf", "(I)I"⟩
abbrev cX8_core : ByteArray := prog_10_method_36_code
def yX8_core : MethodName := ⟨RX8, "core", "(I)I"⟩
abbrev cX8_symbol : ByteArray := prog_10_method_37_code
def yX8_symbol : MethodName := ⟨RX8, "symbol", "(III)I"⟩
abbrev cX8_square : ByteArray := prog_10_method_38_code
def yX8_square : MethodName := ⟨RX8, "square", "(II)I"⟩
abbrev cX8_at : ByteArray := prog_10_method_39_code
def yX8_at : MethodName := ⟨RX8, "at", "(II)I"⟩
abbrev cX8_layForm : ByteArray := prog_10_method_40_code
def yX8_layForm : MethodName := ⟨RX8, "layForm", "(I)V"⟩
abbrev cX8_lookAt : ByteArray := prog_10_method_41_code
def yX8_lookAt : MethodName := ⟨RX8, "lookAt", "(I)V"⟩
abbrev cX8_lookMore : ByteArray := prog_10_method_42_code
def yX8_lookMore : MethodName := ⟨RX8, "lookMore", "(I)V"⟩
abbrev cX8_hasseOf : ByteArray := prog_10_method_43_code
def yX8_hasseOf : MethodName := ⟨RX8, "hasseOf", "(I)I"⟩
abbrev cX8_barsOf : ByteArray := prog_10_method_44_code
def yX8_barsOf : MethodName := ⟨RX8, "barsOf", "(I)I"⟩
abbrev cX8_above : ByteArray := prog_10_method_45_code
def yX8_above : MethodName := ⟨RX8, "above", "(I)I"⟩
abbrev cX8_det : ByteArray := prog_10_method_46_code
def yX8_det : MethodName := ⟨RX8, "det", "(I)I"⟩
abbrev cX8_planes : ByteArray := prog_10_method_47_code
def yX8_planes : MethodName := ⟨RX8, "planes", "(I)I"⟩
abbrev cX8_restDet : ByteArray := prog_10_method_48_code
def yX8_restDet : MethodName := ⟨RX8, "restDet", "(I)I"⟩
abbrev cX8_restHasse : ByteArray := prog_10_method_49_code
def yX8_restHasse : MethodName := ⟨RX8, "restHasse", "(I)I"⟩
abbrev cX8_isLikeAt : ByteArray := prog_10_method_50_code
def yX8_isLikeAt : MethodName := ⟨RX8, "isLikeAt", "(III)Z"⟩
abbrev cX8_unlikeOf : ByteArray := prog_10_method_51_code
def yX8_unlikeOf : MethodName := ⟨RX8, "unlikeOf", "(II)I"⟩
abbrev cX8_leastLike : ByteArray := prog_10_method_52_code
def yX8_leastLike : MethodName := ⟨RX8, "leastLike", "(I)I"⟩
abbrev cX8_aboutNow : ByteArray := prog_10_method_53_code
def yX8_aboutNow : MethodName := ⟨RX8, "aboutNow", "(II)I"⟩
abbrev cX8_about : ByteArray := prog_10_method_54_code
def yX8_about : MethodName := ⟨RX8, "about", "(II)I"⟩
abbrev cX8_like : ByteArray := prog_10_method_55_code
def yX8_like : MethodName := ⟨RX8, "like", "(II)I"⟩
abbrev cX8_meetsNow : ByteArray := prog_10_method_56_code
def yX8_meetsNow : MethodName := ⟨RX8, "meetsNow", "(II)I"⟩
abbrev cX8_meets : ByteArray := prog_10_method_57_code
def yX8_meets : MethodName := ⟨RX8, "meets", "(II)I"⟩
abbrev cX8_goesOn : ByteArray := prog_10_method_58_code
def yX8_goesOn : MethodName := ⟨RX8, "goesOn", "(I)Z"⟩
abbrev cX8_comesToNothing : ByteArray := prog_10_method_59_code
def yX8_comesToNothing : MethodName := ⟨RX8, "comesToNothing", "(I)Z"⟩
abbrev cX8_findBy : ByteArray := prog_10_method_60_code
def yX8_findBy : MethodName := ⟨RX8, "findBy", "(IZ)Z"⟩
abbrev cX8_find : ByteArray := prog_10_method_61_code
def yX8_find : MethodName := ⟨RX8, "find", "(IZ)Z"⟩
abbrev cX8_row : ByteArray := prog_10_method_62_code
def yX8_row : MethodName := ⟨RX8, "row", "(II)I"⟩
abbrev cX8_way : ByteArray := prog_10_method_63_code
def yX8_way : MethodName := ⟨RX8, "way", "(III)I"⟩
abbrev cX8_clear : ByteArray := prog_10_method_64_code
def yX8_clear : MethodName := ⟨RX8, "clear", "(I)I"⟩
abbrev cX8_join : ByteArray := prog_10_method_65_code
def yX8_join : MethodName := ⟨RX8, "join", "(III)I"⟩
abbrev cX8_times : ByteArray := prog_10_method_66_code
def yX8_times : MethodName := ⟨RX8, "times", "(III)I"⟩
abbrev cX8_scale : ByteArray := prog_10_method_67_code
def yX8_scale : MethodName := ⟨RX8, "scale", "(II)I"⟩
abbrev cX8_isSquared : ByteArray := prog_10_method_68_code
def yX8_isSquared : MethodName := ⟨RX8, "isSquared", "(I)Z"⟩
abbrev cX8_turn : ByteArray := prog_10_method_69_code
def yX8_turn : MethodName := ⟨RX8, "turn", "(IIIII)I"⟩
abbrev cX8_drop : ByteArray := prog_10_method_70_code
def yX8_drop : MethodName := ⟨RX8, "drop", "(II)I"⟩
abbrev cX8_undo : ByteArray := prog_10_method_71_code
def yX8_undo : MethodName := ⟨RX8, "undo", "()I"⟩
abbrev cX8_common : ByteArray := prog_10_method_72_code
def yX8_common : MethodName := ⟨RX8, "common", "(II)I"⟩
abbrev cX8_addPair : ByteArray := prog_10_method_73_code
def yX8_addPair : MethodName := ⟨RX8, "addPair", "(II)V"⟩
abbrev cX8_layMet : ByteArray := prog_10_method_74_code
def yX8_layMet : MethodName := ⟨RX8, "layMet", "(I)V"⟩
abbrev cX8_isSame : ByteArray := prog_10_method_75_code
def yX8_isSame : MethodName := ⟨RX8, "isSame", "(II)Z"⟩
abbrev cX8_pairs : ByteArray := prog_10_method_76_code
def yX8_pairs : MethodName := ⟨RX8, "pairs", "(I)I"⟩
abbrev cX8_isPair : ByteArray := prog_10_method_77_code
def yX8_isPair : MethodName := ⟨RX8, "isPair", "(I)Z"⟩
abbrev cX8_pairNow : ByteArray := prog_10_method_78_code
def yX8_pairNow : MethodName := ⟨RX8, "pairNow", "(II)I"⟩
abbrev cX8_pair : ByteArray := prog_10_method_79_code
def yX8_pair : MethodName := ⟨RX8, "pair", "(II)I"⟩
abbrev cX8_met : ByteArray := prog_10_method_80_code
def yX8_met : MethodName := ⟨RX8, "met", "(II)I"⟩
abbrev cX8_lay : ByteArray := prog_10_method_81_code
def yX8_lay : MethodName := ⟨RX8, "lay", "(II)I"⟩
abbrev cX8_shelves : ByteArray := prog_10_method_82_code
def yX8_shelves : MethodName := ⟨RX8, "shelves", "(I)I"⟩
abbrev cX8_genera : ByteArray := prog_10_method_83_code
def yX8_genera : MethodName := ⟨RX8, "genera", "()I"⟩
abbrev cX8_howMany : ByteArray := prog_10_method_84_code
def yX8_howMany : MethodName := ⟨RX8, "howMany", "(I)I"⟩
abbrev cX8_count : ByteArray := prog_10_method_85_code
def yX8_count : MethodName := ⟨RX8, "count", "(I)I"⟩
abbrev cX8_mix : ByteArray := prog_10_method_86_code
def yX8_mix : MethodName := ⟨RX8, "mix", "(J)V"⟩
abbrev cX8_mixForm : ByteArray := prog_10_method_87_code
def yX8_mixForm : MethodName := ⟨RX8, "mixForm", "(I)V"⟩
abbrev cX8_digest : ByteArray := prog_10_method_88_code
def yX8_digest : MethodName := ⟨RX8, "digest", "()J"⟩
def RJ13 : String := "java/lang/Long"
def TJ13 : u_T := fun k => match k with
  | _ => ("", "", "", false)
def tyJ13 : Nat → FieldType := fun k => match k with
  | _ => .int
abbrev wsJ130 : List Cond := u_ws RJ13 TJ13 0
theorem nmJ13 : ∀ a, a < 0 → ∀ b, b < 0 → a ≠ b → (TJ13 a).2.1 ≠ (TJ13 b).2.1 := by decide +kernel
theorem tyJ13_ok : ∀ k, k < 0 → parseFieldDescriptor (TJ13 k).2.2.1 = some (tyJ13 k) := by decide +kernel
abbrev cJ13_bitCount_95d88 : ByteArray := prog_11_method_50_code
def yJ13_bitCount_95d88 : MethodName := ⟨RJ13, "bitCount", "(J)I"⟩
def RJ9 : String := "java/lang/Math"
def TJ9 : u_T := fun k => match k with
  | _ => ("", "", "", false)
def tyJ9 : Nat → FieldType := fun k => match k with
  | _ => .int
abbrev wsJ90 : List Cond := u_ws RJ9 TJ9 0
theorem nmJ9 : ∀ a, a < 0 → ∀ b, b < 0 → a ≠ b → (TJ9 a).2.1 ≠ (TJ9 b).2.1 := by decide +kernel
theorem tyJ9_ok : ∀ k, k < 0 → parseFieldDescriptor (TJ9 k).2.2.1 = some (tyJ9 k) := by decide +kernel
abbrev cJ9_floorMod_7cf53 : ByteArray := prog_12_method_50_code
def yJ9_floorMod_7cf53 : MethodName := ⟨RJ9, "floorMod", "(II)I"⟩
abbrev cJ9_abs_0f7a4 : ByteArray := prog_12_method_59_code
def yJ9_abs_0f7a4 : MethodName := ⟨RJ9, "abs", "(I)I"⟩
abbrev cJ9_max_7cf53 : ByteArray := prog_12_method_65_code
def yJ9_max_7cf53 : MethodName := ⟨RJ9, "max", "(II)I"⟩
abbrev cJ9_min_7cf53 : ByteArray := prog_12_method_69_code
def yJ9_min_7cf53 : MethodName := ⟨RJ9, "min", "(II)I"⟩
def RJ10 : String := "java/lang/System"
def TJ10 : u_T := fun k => match k with
  | _ => ("", "", "", false)
def tyJ10 : Nat → FieldType := fun k => match k with
  | _ => .int
abbrev wsJ100 : List Cond := u_ws RJ10 TJ10 0
theorem nmJ10 : ∀ a, a < 0 → ∀ b, b < 0 → a ≠ b → (TJ10 a).2.1 ≠ (TJ10 b).2.1 := by decide +kernel
theorem tyJ10_ok : ∀ k, k < 0 → parseFieldDescriptor (TJ10 k).2.2.1 = some (tyJ10 k) := by decide +kernel
def RL : String := "FormPlacesLaw"
abbrev cL_law : ByteArray := code
def yL_law : MethodName := ⟨RL, "law", "([I)Z"⟩
end
section
/-! the cells that a run holds, 85 of them, made by the two constructors; their ints and longs as two tables; references never change -/
abbrev fS : Type := (Nat → Nat → Int32) × (Nat → Nat → Int64)
def sI (σ : fS) (k j : Nat) (v : Int32) : fS := (fun a => if a = k then upd (σ.1 a) j v else σ.1 a, σ.2)
def sL (σ : fS) (k j : Nat) (v : Int64) : fS := (σ.1, fun a => if a = k then vp_updL (σ.2 a) j v else σ.2 a)
def fTb : List Cond := lw_tbl.filter goodWord
theorem fTb_in {w : Cond} (h : w ∈ lw_tbl) (g : goodWord w = true) : w ∈ fTb := List.mem_filter.mpr ⟨h, g⟩
theorem fTb_of {w : Cond} (h : w ∈ fTb) : w ∈ lw_tbl := (List.mem_filter.mp h).1
theorem fTb_good {w : Cond} (h : w ∈ fTb) : goodWord w = true := (List.mem_filter.mp h).2
theorem f_good {y : Cond} (h : y ∈ fTb) : GoodIn fTb (y :: fTb) := fun w hw => by
  rcases List.mem_cons.mp hw with rfl | h2
  · exact ⟨h, good_of_word (fTb_good h)⟩
  · exact ⟨h2, good_of_word (fTb_good h2)⟩
abbrev fEv : Type := va_G × (Nat → Nat) × (Nat → ClassId) × Nat × Nat
def f_cl : List vw_C := [(RX0, TX0, 4), (RX1, TX1, 6), (RX3, TX3, 2), (RX4, TX4, 8), (RX5, TX5, 6), (RX6, TX6, 2), (RX7, TX7, 7), (RX8, TX8, 33)]
def f_kdT : List Nat := [6, 2, 10, 14, 0, 10, 4, 10, 14, 3, 10, 10, 10, 10, 13, 11, 5, 10, 1, 10, 10, 0, 10, 0, 10, 0, 10, 0, 10, 0, 10, 0, 10, 0, 10, 0, 10, 0, 10, 0, 10, 0, 10, 0, 10, 0, 10, 0, 10, 0, 10, 0, 10, 0, 10, 0, 10, 0, 10, 0, 10, 7, 10, 10, 11, 10, 10, 12, 10, 10, 10, 10, 10, 10, 10, 10, 11, 10, 11, 11, 11, 11, 10, 10, 10]
def f_lnT : List Nat := [0, 0, 18, 8, 0, 4, 0, 12, 12, 0, 56, 56, 56, 56, 168, 160, 0, 5, 0, 5, 5, 0, 4, 0, 4, 0, 4, 0, 4, 0, 4, 0, 4, 0, 4, 0, 4, 0, 4, 0, 4, 0, 4, 0, 4, 0, 4, 0, 4, 0, 4, 0, 4, 0, 4, 0, 4, 0, 4, 0, 4, 0, 8, 32, 8, 8, 8, 18, 12, 12, 48, 56, 56, 56, 56, 56, 8960, 5, 169, 169, 169, 169, 4, 5, 5]
def kd (k : Nat) : Nat := f_kdT.getD k 99
def ln (k : Nat) : Nat := f_lnT.getD k 0
def nf (c : Nat) : Nat := ([4, 6, 2, 8, 6, 2, 7, 33] : List Nat).getD c 0
def f_ftT : List (List Nat) := [[2, 0, 0, 0], [2, 2, 2, 0, 0, 0], [2, 0], [2, 2, 2, 2, 2, 2, 0, 0], [2, 2, 0, 0, 0, 0], [2, 0], [2, 2, 2, 2, 2, 2, 2], [2, 2, 2, 2, 2, 0, 2, 0, 2, 2, 2, 0, 0, 0, 0, 2, 2, 2, 2, 2, 2, 0, 2, 2, 2, 2, 2, 0, 0, 2, 2, 2, 1]]
def ft (c j : Nat) : Nat := (f_ftT.getD c []).getD j 0
def f_srT : List (List Nat) := [[], [16, 19, 20], [2], [10, 11, 12, 13, 14, 15], [7, 8], [17], [1, 3, 4, 6, 9, 16, 18], [62, 63, 64, 65, 66, 0, 67, 0, 68, 69, 70, 0, 0, 0, 0, 71, 72, 73, 74, 75, 76, 0, 77, 78, 79, 80, 81, 0, 0, 82, 83, 84, 0]]
def sr (k j : Nat) : Nat := if kd k = 0 then k + 1 else (f_srT.getD (kd k) []).getD j 0
def er (k i : Nat) : Nat := if k = 3 then 21 + 2 * i else 37 + 2 * i
def fv (E : fEv) (σ : fS) (k c j : Nat) : Value := match ft c j with
  | 0 => .int (σ.1 k j)
  | 1 => .long (σ.2 k j)
  | _ => .ref (E.2.1 (sr k j))
def f_ent (E : fEv) (σ : fS) (k : Nat) : va_E := match kd k with
  | 10 => .inl (E.2.2.1 0, ln k, .inl (σ.1 k))
  | 11 => .inl (E.2.2.1 1, ln k, .inl (σ.1 k))
  | 12 => .inl (E.2.2.1 2, ln k, .inl (σ.1 k))
  | 13 => .inl (E.2.2.1 3, ln k, .inr (.inl (σ.2 k)))
  | 14 => .inl (E.2.2.1 4, ln k, .inr (.inr (.inr (.inr (fun i => some (E.2.1 (er k i)))))))
  | c => .inr (c, (List.range (nf c)).map (fv E σ k c))
def f_w (E : fEv) (σ : fS) : va_W := (List.range 85).map (fun k => (E.2.1 k, f_ent E σ k))
def f_A (E : fEv) : Nat → Prop := fun q => ∃ k, k < 85 ∧ q = E.2.1 k
def f_ty (E : fEv) : List (ClassId × FieldType) := [(E.2.2.1 0, .int), (E.2.2.1 1, .boolean), (E.2.2.1 2, .byte), (E.2.2.1 3, .long), (E.2.2.1 4, .object "FormPlaces$Form")]
def f_B (j : Nat) : Int32 := match j with
  | 0 => -1
  | 1 => 2
  | 2 => 3
  | 3 => 5
  | 4 => 7
  | 5 => 11
  | _ => 13
def f_Sq (j : Nat) : Int32 := match j with
  | 0 => 0
  | 1 => 0
  | 2 => 2
  | 3 => 18
  | 4 => 22
  | 5 => 570
  | _ => 5658
def f_nj (E : fEv) : Prop := ∀ i j, i < 85 → j < 85 → E.2.1 i = E.2.1 j → i = j
def f_stat (E : fEv) (nm : String) (z : Nat) (f : Nat → Int32) (U : State) : Prop := va_Z "FormPlaces" nm "[I" (.ref z) (f_A E) U U.heap ∧ va_X z 7 f U U.heap ∧ z < U.heap.size ∧ ¬ f_A E z
def f_ok (E : fEv) (U : State) : Prop := va_K E.1 f_cl (f_ty E) U ∧ f_nj E ∧ f_stat E "BASES" E.2.2.2.1 f_B U ∧ f_stat E "SQUARE_RESTS" E.2.2.2.2 f_Sq U ∧ va_Nw (.fieldLinkNest RX2 9 "FormPlaces" "BASES" "[I" "FormPlaces") U ∧ va_Nw (.fieldLinkNest RX6 51 "FormPlaces" "BASES" "[I" "FormPlaces") U ∧ va_Nw (.fieldLinkNest RX6 63 "FormPlaces" "SQUARE_RESTS" "[I" "FormPlaces") U
def f_h (E : fEv) (σ : fS) (H : Heap) : Prop := va_P E.1 f_cl (f_w E σ) H
theorem f_stat.calling {E : fEv} {nm : String} {z : Nat} {f : Nat → Int32} {U : State} {g : JFrame} {mk : MethodId} {a : Array Value} (h : f_stat E nm z f U) : f_stat E nm z f (U.calling g mk a) := by
  obtain ⟨h1, h2, h3, h4⟩ := h
  exact ⟨va_Z.moved (u := U) (U := U.calling g mk a) (Vm.Alike.refl U.vm) h1, va_X.moved (u := U) (U := U.calling g mk a) (Vm.Alike.refl U.vm) h2, h3, h4⟩
theorem f_stat.go {E : fEv} {nm : String} {z : Nat} {f : Nat → Int32} {s U : State} {H : Heap} {locs : List Loc} (h : f_stat E nm z f s) (hS : va_S (f_A E) s.heap H locs) (hU : U.heap = H) (hW : s.WarmedH U.vm) : f_stat E nm z f U := by
  obtain ⟨h1, h2, h3, h4⟩ := h
  rw [← hU] at hS
  exact ⟨(va_Z.moved hW.alike h1).kept hS.2.1, (va_X.moved hW.alike h2).kept (hS.2.1 z h3 h4), Nat.lt_of_lt_of_le h3 hS.1, h4⟩
theorem f_ok.calling {E : fEv} {U : State} {g : JFrame} {mk : MethodId} {a : Array Value} (h : f_ok E U) : f_ok E (U.calling g mk a) := by
  obtain ⟨h1, h2, h3, h4, h5, h6, h7⟩ := h
  exact ⟨va_K.moved (u := U) (U := U.calling g mk a) (Vm.Alike.refl U.vm) h1, h2, h3.calling, h4.calling, va_Nw.same rfl rfl h5, va_Nw.same rfl rfl h6, va_Nw.same rfl rfl h7⟩
theorem f_ok.go {E : fEv} {s U : State} {H : Heap} {locs : List Loc} (h : f_ok E s) (hS : va_S (f_A E) s.heap H locs) (hU : U.heap = H) (hW : s.WarmedH U.vm) : f_ok E U := by
  obtain ⟨h1, h2, h3, h4, h5, h6, h7⟩ := h
  exact ⟨va_K.moved hW.alike h1, h2, h3.go hS hU hW, h4.go hS hU hW, va_Nw.warmF hW h5, va_Nw.warmF hW h6, va_Nw.warmF hW h7⟩
theorem f_wat {E : fEv} {σ : fS} {k : Nat} (hk : k < 85) : (f_w E σ)[k]? = some (E.2.1 k, f_ent E σ k) := by
  simp [f_w, hk]
theorem f_wof {E : fEv} {σ : fS} {i : Nat} {q : Nat × va_E} (h : (f_w E σ)[i]? = some q) : i < 85 ∧ q = (E.2.1 i, f_ent E σ i) := by
  have hl : i < 85 := by
    have h1 := (List.getElem?_eq_some_iff.mp h).1
    simpa [f_w] using h1
  rw [f_wat hl] at h
  exact ⟨hl, (Option.some.inj h).symm⟩
theorem f_hD {E : fEv} (σ : fS) (h : f_nj E) : va_D (f_A E) (f_w E σ) := by
  refine ⟨fun i j p q hi hj hpq => ?_, fun k q hk => ?_⟩
  · obtain ⟨l1, rfl⟩ := f_wof hi
    obtain ⟨l2, rfl⟩ := f_wof hj
    exact h i j l1 l2 hpq
  · obtain ⟨l1, rfl⟩ := f_wof hk
    exact ⟨k, l1, rfl⟩
theorem f_ent_cg {E : fEv} {σ τ : fS} {a : Nat} (h1 : σ.1 a = τ.1 a) (h2 : σ.2 a = τ.2 a) : f_ent E σ a = f_ent E τ a := by
  have h3 : fv E σ a = fv E τ a := by
    funext c j
    simp only [fv, h1, h2]
  simp only [f_ent, h1, h2, h3]
theorem f_set {E : fEv} {σ τ : fS} {k : Nat} {e : va_E} (he : e = f_ent E τ k) (h : ∀ a, a ≠ k → σ.1 a = τ.1 a ∧ σ.2 a = τ.2 a) : (f_w E σ).set k (E.2.1 k, e) = f_w E τ := by
  subst he
  apply List.ext_getElem?
  intro i
  by_cases hi : i < 85
  · rw [f_wat hi]
    by_cases hk : k = i
    · subst hk
      rw [List.getElem?_set_self (by simp [f_w]; exact hi)]
    · rw [List.getElem?_set_ne hk, f_wat hi, f_ent_cg (h i (Ne.symm hk)).1 (h i (Ne.symm hk)).2]
  · rw [List.getElem?_eq_none (by simp [f_w]; omega), List.getElem?_eq_none (by simp [f_w]; omega)]
theorem kd_lt {k c : Nat} (h : kd k = c) (hc : c < 99) : k < 85 := by
  rcases Nat.lt_or_ge k 85 with q | q
  · exact q
  · have h1 : kd k = 99 := by
      unfold kd
      rw [List.getD_eq_getElem?_getD, List.getElem?_eq_none (by simp [f_kdT]; omega)]; rfl
    omega
theorem f_ent_o {E : fEv} {σ : fS} {k c : Nat} (h : kd k = c) (hc : c < 8) : f_ent E σ k = .inr (c, (List.range (nf c)).map (fv E σ k c)) := by
  unfold f_ent
  rw [h]
  match c, hc with
  | 0, _ => rfl
  | 1, _ => rfl
  | 2, _ => rfl
  | 3, _ => rfl
  | 4, _ => rfl
  | 5, _ => rfl
  | 6, _ => rfl
  | 7, _ => rfl
theorem f_ent_i {E : fEv} {σ : fS} {k : Nat} (h : kd k = 10) : f_ent E σ k = .inl (E.2.2.1 0, ln k, .inl (σ.1 k)) := by simp only [f_ent, h]
theorem f_ent_z {E : fEv} {σ : fS} {k : Nat} (h : kd k = 11) : f_ent E σ k = .inl (E.2.2.1 1, ln k, .inl (σ.1 k)) := by simp only [f_ent, h]
theorem f_ent_b {E : fEv} {σ : fS} {k : Nat} (h : kd k = 12) : f_ent E σ k = .inl (E.2.2.1 2, ln k, .inl (σ.1 k)) := by simp only [f_ent, h]
theorem f_ent_l {E : fEv} {σ : fS} {k : Nat} (h : kd k = 13) : f_ent E σ k = .inl (E.2.2.1 3, ln k, .inr (.inl (σ.2 k))) := by simp only [f_ent, h]
theorem f_ent_r {E : fEv} {σ : fS} {k : Nat} (h : kd k = 14) : f_ent E σ k = .inl (E.2.2.1 4, ln k, .inr (.inr (.inr (.inr (fun i => some (E.2.1 (er k i))))))) := by simp only [f_ent, h]
theorem sI_at (σ : fS) (k j : Nat) (v : Int32) : (sI σ k j v).1 k = upd (σ.1 k) j v := by simp [sI]
theorem sI_ne (σ : fS) {k a : Nat} (j : Nat) (v : Int32) (h : a ≠ k) : (sI σ k j v).1 a = σ.1 a := by simp [sI, h]
theorem sL_at (σ : fS) (k j : Nat) (v : Int64) : (sL σ k j v).2 k = vp_updL (σ.2 k) j v := by simp [sL]
theorem sL_ne (σ : fS) {k a : Nat} (j : Nat) (v : Int64) (h : a ≠ k) : (sL σ k j v).2 a = σ.2 a := by simp [sL, h]
/-! the words of a method's value: guards, names, binds -/
def Gd {α : Type} (c : Bool) (x : Option α) : Option α := match c with
  | true => x
  | false => none
theorem f_gd {α : Type} {c : Bool} {x : Option α} {r : α} (h : Gd c x = some r) : c = true ∧ x = some r := by
  cases c with
  | true => exact ⟨rfl, h⟩
  | false => cases h
def Lt {α β : Type} (e : α) (f : α → β) : β := f e
theorem f_lt {α β : Type} {e x : α} {f : α → β} {r : β} (h : Lt e f = r) (ex : x = e) : f x = r := by subst ex; exact h
def Bd {α β : Type} (x : Option (α × fS)) (f : α → fS → Option β) : Option β := match x with
  | none => none
  | some q => f q.1 q.2
theorem f_bd {α β : Type} {x : Option (α × fS)} {f : α → fS → Option β} {r : β} (h : Bd x f = some r) : ∃ (a : α) (σ : fS), x = some (a, σ) ∧ f a σ = some r := by
  cases x with
  | none => cases h
  | some q => exact ⟨q.1, q.2, rfl, h⟩
def Bv {β : Type} (x : Option fS) (f : fS → Option β) : Option β := match x with
  | none => none
  | some q => f q
theorem f_bv {β : Type} {x : Option fS} {f : fS → Option β} {r : β} (h : Bv x f = some r) : ∃ (σ : fS), x = some σ ∧ f σ = some r := by
  cases x with
  | none => cases h
  | some q => exact ⟨q, rfl, h⟩
def Bs {α ρ : Type} (x : Option (ρ ⊕ (α × fS))) (f : α → fS → Option ρ) : Option ρ := match x with
  | none => none
  | some (.inl q) => some q
  | some (.inr q) => f q.1 q.2
theorem f_bs {α ρ : Type} {x : Option (ρ ⊕ (α × fS))} {f : α → fS → Option ρ} {r : ρ} (h : Bs x f = some r) : ∃ z : ρ ⊕ (α × fS), x = some z ∧ Bs (some z) f = some r := by
  cases x with
  | none => cases h
  | some q => exact ⟨q, rfl, h⟩
theorem f_bs_l {α ρ : Type} {z : ρ ⊕ (α × fS)} {f : α → fS → Option ρ} {r q : ρ} (h : Bs (some z) f = some r) (hz : some (Sum.inl q) = some z) : some q = some r := by
  cases hz; exact h
theorem f_ip {α : Type} {c : Prop} {inst : Decidable c} {A B : α} {r : α} (hc : c) (h : (if c then A else B) = r) : A = r := by rwa [if_pos hc] at h
theorem f_in {α : Type} {c : Prop} {inst : Decidable c} {A B : α} {r : α} (hc : ¬ c) (h : (if c then A else B) = r) : B = r := by rwa [if_neg hc] at h
def fin (i : Int32) (n : Nat) : Bool := decide (0 ≤ i.toInt ∧ i.toInt < (n : Int))
theorem f_fin {i : Int32} {n : Nat} (h : fin i n = true) : vp_in i n := vp_in_iff.mpr (by simpa [fin] using h)
theorem f_cl_lt {i : Int32} {n : Nat} (h : vp_in i n) : i.toNatClampNeg < n := Nat.not_le.mp fun q => h (Or.inr q)
def nz (i : Int32) : Bool := decide (¬ i = 0)
theorem f_nz {i : Int32} (h : nz i = true) : ¬ i = 0 := by simpa [nz] using h
def isB (i : Int32) : Bool := decide (i = 0 ∨ i = 1)
theorem f_isB {i : Int32} (h : isB i = true) : i = 0 ∨ i = 1 := by simpa [isB] using h
def iR (x y : Int32) : Int32 := x - x / y * y
/-! contracts -/
def fQ (E : fEv) (τ : fS) (o : Option Value) : Array Value → State → Outcome → State → Prop := fun _ st oc t => oc = .returned o ∧ f_h E τ t.heap ∧ va_F (f_A E) st t
def fP (E : fEv) (σ : fS) (av : List Value) : Array Value → State → Prop := va_Pc av (fun U => f_ok E U ∧ f_h E σ U.heap)
def fM (l : Launch) (E : fEv) (y : MethodName) (w : Cond) (rm : Room) (av : List Value) (σ τ : fS) (o : Option Value) : Prop := Met l y (w :: fTb) rm (fP E σ av) (fQ E τ o) 0 0 (f_A E)
theorem fP_blind {E : fEv} {σ : fS} {av : List Value} : FrameBlind (fP E σ av) := fun _ _ _ _ q => ⟨q.1, q.2.1.calling, q.2.2⟩
def fX (p : Program) (m : MethodId) (c : Code) (s : State) (args : Array Value) (E : fEv) (own : String) (cc : ByteArray) (nL : Nat) : Prop := CallFix p m c cc nL s args fTb own ∧ f_ok E s
theorem f_open {l : Launch} {E : fEv} {y : MethodName} {cc : ByteArray} {maxL : Nat} {ret : Option FieldType} {rm : Room} {av : List Value} {σ τ : fS} {o : Option Value} (hy : plainName y.cls = true) (hlen : (lg_sl av).length ≤ maxL)
    (body : ∀ (p : Program) (e : Env) (s : State) (m : MethodId) (below : List Frame) (meth : Method) (c : Code), fX p m c s av.toArray E y.cls cc maxL → meth.sig.returnType = ret → meth.locks = false → f_h E σ s.heap → ∀ ls : Array Slot, lv_has ls maxL (lv_args 0 av) → W p l e rm s m av.toArray below meth c s.heap [] 0 0 (MQ below (fQ E τ o) av.toArray s 0 0 (f_A E)) (F0 m 0 ls [])) : fM l E y (.code y cc maxL ret) rm av σ τ o := by
  refine Met.ofW (cc := cc) (maxL := maxL) (ret := ret) hy rfl ?_
  intro p e s m args below meth c s₁ B hml hv
  obtain ⟨rfl, hok, hP⟩ := hv
  have hts := atoms_spec (ws := Cond.code y cc maxL ret :: fTb) B.pre
  have hl := lv_entry av (n := maxL) hlen
  rw [lg_entry_eq]
  exact body p e s m below meth c ⟨⟨B.exec, B.bytes, hml, findClass_of_methodNamed B.named, fun w hw => hts w (List.mem_cons_of_mem _ hw)⟩, hok⟩ B.returns B.notSynchronized hP _ hl
section FROWS
variable {p : Program} {l : Launch} {e : Env} {R : Room} {s : State} {m : MethodId} {args : Array Value} {below : List Frame} {meth : Method} {c : Code} {H : Heap} {locs : List Loc} {cells slots : Nat} {Q : State → Prop}
variable {cc : ByteArray} {pc nL : Nat} {ls : Array Slot} {rest : List Value} {E : fEv} {own : String} {σ τ : fS} {k : Nat}
theorem x_get (F : fX p m c s args E own cc nL) (hP : f_h E σ H) {ci index : Nat} {C : String} {T : u_T} {N : Nat} {v : Value} (hk : kd k = ci) (hci : ci < 8) (hc : f_cl[ci]? = some (C, T, N)) (hN : nf ci = N) (hin : ∀ w ∈ u_ws C T N, w ∈ fTb) (j : Nat) (hj : j < N) (hlink : Cond.fieldLink own index (T j).1 (T j).2.1 (T j).2.2.1 ∈ fTb) (hv : fv E σ k ci j = v) (hdg : decode cc pc = .ok (.getfield index, 3))
    (kk : W p l e R s m args below meth c H locs cells slots Q (F0 m (pc + 3) ls (v :: rest))) : W p l e R s m args below meth c H locs cells slots Q (F0 m pc ls (.ref (E.2.1 k) :: rest)) := by
  obtain ⟨⟨hx, hb, hml, hown, hts⟩, hok⟩ := F
  exact va_get hx hb hts hin hown hok.1 hP k (fs := (List.range (nf ci)).map (fv E σ k ci)) (by rw [f_wat (kd_lt hk (by omega)), f_ent_o hk hci]) hc j hj (hts _ hlink) (fun _ h => h) (by rw [List.getElem?_map, List.getElem?_range (by omega), ← hv]; rfl) hdg kk
theorem x_put (F : fX p m c s args E own cc nL) (hS : va_S (f_A E) s.heap H locs) (hP : f_h E σ H) {ci index : Nat} {C : String} {T : u_T} {N : Nat} {x : Int32} {ty : FieldType} (ty0 : Nat → FieldType) (hty : ∀ k, k < N → parseFieldDescriptor (T k).2.2.1 = some (ty0 k)) (hnm : ∀ a, a < N → ∀ b, b < N → a ≠ b → (T a).2.1 ≠ (T b).2.1) (hk : kd k = ci) (hci : ci < 8) (hc : f_cl[ci]? = some (C, T, N)) (hN : nf ci = N) (hin : ∀ w ∈ u_ws C T N, w ∈ fTb) (j : Nat) (hj : j < N) (hft : ft ci j = 0) (hlink : Cond.fieldLink own index (T j).1 (T j).2.1 (T j).2.2.1 ∈ fTb) (hfin : (T j).2.2.2 = false) (hd : parseFieldDescriptor (T j).2.2.1 = some ty) (hn : narrow ty (.int x) = .int x) (hfit : fits ty (.int x) = true) (hdg : decode cc pc = .ok (.putfield index, 3))
    (kk : ∀ (H1 : Heap) (locs1 : List Loc), f_h E (sI σ k j x) H1 → va_S (f_A E) s.heap H1 locs1 → W p l e R s m args below meth c H1 locs1 cells slots Q (F0 m (pc + 3) ls rest)) : W p l e R s m args below meth c H locs cells slots Q (F0 m pc ls (.int x :: .ref (E.2.1 k) :: rest)) := by
  obtain ⟨⟨hx, hb, hml, hown, hts⟩, hok⟩ := F
  refine va_put hx hb hts hin ty0 hty hnm hown hok.1 hP (f_hD σ hok.2.1) hS k (fs := (List.range (nf ci)).map (fv E σ k ci)) (by rw [f_wat (kd_lt hk (by omega)), f_ent_o hk hci]) hc j hj (hts _ hlink) (fun _ h => h) hfin hd hn hfit (by simp; omega) hdg (fun H1 locs1 h1 _ h3 => kk H1 locs1 ?_ h3)
  have e1 : (f_w E σ).set k (E.2.1 k, .inr (ci, ((List.range (nf ci)).map (fv E σ k ci)).set j (.int x))) = f_w E (sI σ k j x) := by
    refine f_set ?_ (fun a ha => ⟨(sI_ne σ j x ha).symm, rfl⟩)
    rw [f_ent_o hk hci]
    congr 2
    apply List.ext_getElem?
    intro i
    by_cases hi : i < nf ci
    · by_cases hji : j = i
      · subst hji
        rw [List.getElem?_set_self (by simp; exact hi), List.getElem?_map, List.getElem?_range hi]
        simp only [fv, hft, sI_at, Option.map_some, upd, if_true]
      · rw [List.getElem?_set_ne hji, List.getElem?_map, List.getElem?_map, List.getElem?_range hi]
        simp only [fv, sI_at, Option.map_some, upd, if_neg (Ne.symm hji)]
        rfl
    · rw [List.getElem?_eq_none (by simp; omega), List.getElem?_eq_none (by simp; omega)]
  rw [e1] at h1
  exact h1
theorem x_putL (F : fX p m c s args E own cc nL) (hS : va_S (f_A E) s.heap H locs) (hP : f_h E σ H) {ci index : Nat} {C : String} {T : u_T} {N : Nat} {x : Int64} (ty0 : Nat → FieldType) (hty : ∀ k, k < N → parseFieldDescriptor (T k).2.2.1 = some (ty0 k)) (hnm : ∀ a, a < N → ∀ b, b < N → a ≠ b → (T a).2.1 ≠ (T b).2.1) (hk : kd k = ci) (hci : ci < 8) (hc : f_cl[ci]? = some (C, T, N)) (hN : nf ci = N) (hin : ∀ w ∈ u_ws C T N, w ∈ fTb) (j : Nat) (hj : j < N) (hft : ft ci j = 1) (hlink : Cond.fieldLink own index (T j).1 (T j).2.1 (T j).2.2.1 ∈ fTb) (hfin : (T j).2.2.2 = false) (hd : parseFieldDescriptor (T j).2.2.1 = some .long) (hdg : decode cc pc = .ok (.putfield index, 3))
    (kk : ∀ (H1 : Heap) (locs1 : List Loc), f_h E (sL σ k j x) H1 → va_S (f_A E) s.heap H1 locs1 → W p l e R s m args below meth c H1 locs1 cells slots Q (F0 m (pc + 3) ls rest)) : W p l e R s m args below meth c H locs cells slots Q (F0 m pc ls (.long x :: .ref (E.2.1 k) :: rest)) := by
  obtain ⟨⟨hx, hb, hml, hown, hts⟩, hok⟩ := F
  refine va_put hx hb hts hin ty0 hty hnm hown hok.1 hP (f_hD σ hok.2.1) hS k (fs := (List.range (nf ci)).map (fv E σ k ci)) (by rw [f_wat (kd_lt hk (by omega)), f_ent_o hk hci]) hc j hj (hts _ hlink) (fun _ h => h) hfin hd rfl rfl (by simp; omega) hdg (fun H1 locs1 h1 _ h3 => kk H1 locs1 ?_ h3)
  have e1 : (f_w E σ).set k (E.2.1 k, .inr (ci, ((List.range (nf ci)).map (fv E σ k ci)).set j (.long x))) = f_w E (sL σ k j x) := by
    refine f_set ?_ (fun a ha => ⟨rfl, (sL_ne σ j x ha).symm⟩)
    rw [f_ent_o hk hci]
    congr 2
    apply List.ext_getElem?
    intro i
    by_cases hi : i < nf ci
    · by_cases hji : j = i
      · subst hji
        rw [List.getElem?_set_self (by simp; exact hi), List.getElem?_map, List.getElem?_range hi]
        simp only [fv, hft, sL_at, Option.map_some, vp_updL, if_true]
      · rw [List.getElem?_set_ne hji, List.getElem?_map, List.getElem?_map, List.getElem?_range hi]
        simp only [fv, sL_at, Option.map_some, vp_updL, if_neg (Ne.symm hji)]
        rfl
    · rw [List.getElem?_eq_none (by simp; omega), List.getElem?_eq_none (by simp; omega)]
  rw [e1] at h1
  exact h1
theorem x_iald (F : fX p m c s args E own cc nL) (hP : f_h E σ H) {n : Nat} (hk : kd k = 10) (hn : ln k = n) {i : Int32} (hi : vp_in i n) (hdg : decode cc pc = .ok (.iaload, 1))
    (kk : W p l e R s m args below meth c H locs cells slots Q (F0 m (pc + 1) ls (.int (σ.1 k i.toNatClampNeg) :: rest))) : W p l e R s m args below meth c H locs cells slots Q (F0 m pc ls (.int i :: .ref (E.2.1 k) :: rest)) := by
  obtain ⟨⟨hx, hb, hml, hown, hts⟩, hok⟩ := F
  subst hn
  exact va_iald hx hb hok.1 hP k 0 (by rw [f_wat (kd_lt hk (by omega)), f_ent_i hk]) rfl hi hdg kk
theorem x_zald (F : fX p m c s args E own cc nL) (hP : f_h E σ H) {n : Nat} (hk : kd k = 11) (hn : ln k = n) {i : Int32} (hi : vp_in i n) (hdg : decode cc pc = .ok (.baload, 1))
    (kk : W p l e R s m args below meth c H locs cells slots Q (F0 m (pc + 1) ls (.int (σ.1 k i.toNatClampNeg) :: rest))) : W p l e R s m args below meth c H locs cells slots Q (F0 m pc ls (.int i :: .ref (E.2.1 k) :: rest)) := by
  obtain ⟨⟨hx, hb, hml, hown, hts⟩, hok⟩ := F
  subst hn
  exact va_zald hx hb hok.1 hP k 1 (by rw [f_wat (kd_lt hk (by omega)), f_ent_z hk]) rfl hi hdg kk
theorem x_bald (F : fX p m c s args E own cc nL) (hP : f_h E σ H) {n : Nat} (hk : kd k = 12) (hn : ln k = n) {i : Int32} (hi : vp_in i n) (hdg : decode cc pc = .ok (.baload, 1))
    (kk : W p l e R s m args below meth c H locs cells slots Q (F0 m (pc + 1) ls (.int (σ.1 k i.toNatClampNeg) :: rest))) : W p l e R s m args below meth c H locs cells slots Q (F0 m pc ls (.int i :: .ref (E.2.1 k) :: rest)) := by
  obtain ⟨⟨hx, hb, hml, hown, hts⟩, hok⟩ := F
  subst hn
  exact va_bald hx hb hok.1 hP k 2 (by rw [f_wat (kd_lt hk (by omega)), f_ent_b hk]) rfl hi hdg kk
theorem x_lald (F : fX p m c s args E own cc nL) (hP : f_h E σ H) {n : Nat} (hk : kd k = 13) (hn : ln k = n) {i : Int32} (hi : vp_in i n) (hdg : decode cc pc = .ok (.laload, 1))
    (kk : W p l e R s m args below meth c H locs cells slots Q (F0 m (pc + 1) ls (.long (σ.2 k i.toNatClampNeg) :: rest))) : W p l e R s m args below meth c H locs cells slots Q (F0 m pc ls (.int i :: .ref (E.2.1 k) :: rest)) := by
  obtain ⟨⟨hx, hb, hml, hown, hts⟩, hok⟩ := F
  subst hn
  exact va_lald hx hb hok.1 hP k 3 (by rw [f_wat (kd_lt hk (by omega)), f_ent_l hk]) rfl hi hdg kk
theorem x_aald (F : fX p m c s args E own cc nL) (hP : f_h E σ H) {n : Nat} (hk : kd k = 14) (hn : ln k = n) {i : Int32} (hi : vp_in i n) (hdg : decode cc pc = .ok (.aaload, 1))
    (kk : W p l e R s m args below meth c H locs cells slots Q (F0 m (pc + 1) ls (.ref (E.2.1 (er k i.toNatClampNeg)) :: rest))) : W p l e R s m args below meth c H locs cells slots Q (F0 m pc ls (.int i :: .ref (E.2.1 k) :: rest)) := by
  obtain ⟨⟨hx, hb, hml, hown, hts⟩, hok⟩ := F
  subst hn
  exact va_aldq hx hb hok.1 hP k 4 (f := fun i => some (E.2.1 (er k i))) (by rw [f_wat (kd_lt hk (by omega)), f_ent_r hk]) rfl hi hdg kk
theorem x_iast (F : fX p m c s args E own cc nL) (hS : va_S (f_A E) s.heap H locs) (hP : f_h E σ H) {n : Nat} (hk : kd k = 10) (hn : ln k = n) {i : Int32} {x : Int32} (hi : vp_in i n) (hdg : decode cc pc = .ok (.iastore, 1))
    (kk : ∀ (H1 : Heap) (locs1 : List Loc), f_h E (sI σ k i.toNatClampNeg x) H1 → va_S (f_A E) s.heap H1 locs1 → W p l e R s m args below meth c H1 locs1 cells slots Q (F0 m (pc + 1) ls rest)) : W p l e R s m args below meth c H locs cells slots Q (F0 m pc ls (.int x :: .int i :: .ref (E.2.1 k) :: rest)) := by
  obtain ⟨⟨hx, hb, hml, hown, hts⟩, hok⟩ := F
  subst hn
  refine va_iast hx hb hok.1 hP (f_hD σ hok.2.1) hS k 0 (by rw [f_wat (kd_lt hk (by omega)), f_ent_i hk]) rfl hi hdg (fun H1 locs1 h1 _ h3 => kk H1 locs1 ?_ h3)
  skip
  rw [f_set (σ := σ) (τ := sI σ k i.toNatClampNeg x) (by rw [f_ent_i hk, sI_at]) (fun a ha => ⟨(sI_ne σ _ _ ha).symm, rfl⟩)] at h1
  exact h1
theorem x_zast (F : fX p m c s args E own cc nL) (hS : va_S (f_A E) s.heap H locs) (hP : f_h E σ H) {n : Nat} (hk : kd k = 11) (hn : ln k = n) {i : Int32} {x : Int32} (hz : vp_nar .boolean x = x) (hi : vp_in i n) (hdg : decode cc pc = .ok (.bastore, 1))
    (kk : ∀ (H1 : Heap) (locs1 : List Loc), f_h E (sI σ k i.toNatClampNeg x) H1 → va_S (f_A E) s.heap H1 locs1 → W p l e R s m args below meth c H1 locs1 cells slots Q (F0 m (pc + 1) ls rest)) : W p l e R s m args below meth c H locs cells slots Q (F0 m pc ls (.int x :: .int i :: .ref (E.2.1 k) :: rest)) := by
  obtain ⟨⟨hx, hb, hml, hown, hts⟩, hok⟩ := F
  subst hn
  refine va_zast hx hb hok.1 hP (f_hD σ hok.2.1) hS k 1 (by rw [f_wat (kd_lt hk (by omega)), f_ent_z hk]) rfl hi hdg (fun H1 locs1 h1 _ h3 => kk H1 locs1 ?_ h3)
  rw [hz] at h1
  rw [f_set (σ := σ) (τ := sI σ k i.toNatClampNeg x) (by rw [f_ent_z hk, sI_at]) (fun a ha => ⟨(sI_ne σ _ _ ha).symm, rfl⟩)] at h1
  exact h1
theorem x_bast (F : fX p m c s args E own cc nL) (hS : va_S (f_A E) s.heap H locs) (hP : f_h E σ H) {n : Nat} (hk : kd k = 12) (hn : ln k = n) {i : Int32} {x : Int32} (hi : vp_in i n) (hdg : decode cc pc = .ok (.bastore, 1))
    (kk : ∀ (H1 : Heap) (locs1 : List Loc), f_h E (sI σ k i.toNatClampNeg (vp_nar .byte x)) H1 → va_S (f_A E) s.heap H1 locs1 → W p l e R s m args below meth c H1 locs1 cells slots Q (F0 m (pc + 1) ls rest)) : W p l e R s m args below meth c H locs cells slots Q (F0 m pc ls (.int x :: .int i :: .ref (E.2.1 k) :: rest)) := by
  obtain ⟨⟨hx, hb, hml, hown, hts⟩, hok⟩ := F
  subst hn
  refine va_bast hx hb hok.1 hP (f_hD σ hok.2.1) hS k 2 (by rw [f_wat (kd_lt hk (by omega)), f_ent_b hk]) rfl hi hdg (fun H1 locs1 h1 _ h3 => kk H1 locs1 ?_ h3)
  skip
  rw [f_set (σ := σ) (τ := sI σ k i.toNatClampNeg (vp_nar .byte x)) (by rw [f_ent_b hk, sI_at]) (fun a ha => ⟨(sI_ne σ _ _ ha).symm, rfl⟩)] at h1
  exact h1
theorem x_last (F : fX p m c s args E own cc nL) (hS : va_S (f_A E) s.heap H locs) (hP : f_h E σ H) {n : Nat} (hk : kd k = 13) (hn : ln k = n) {i : Int32} {x : Int64} (hi : vp_in i n) (hdg : decode cc pc = .ok (.lastore, 1))
    (kk : ∀ (H1 : Heap) (locs1 : List Loc), f_h E (sL σ k i.toNatClampNeg x) H1 → va_S (f_A E) s.heap H1 locs1 → W p l e R s m args below meth c H1 locs1 cells slots Q (F0 m (pc + 1) ls rest)) : W p l e R s m args below meth c H locs cells slots Q (F0 m pc ls (.long x :: .int i :: .ref (E.2.1 k) :: rest)) := by
  obtain ⟨⟨hx, hb, hml, hown, hts⟩, hok⟩ := F
  subst hn
  refine va_last hx hb hok.1 hP (f_hD σ hok.2.1) hS k 3 (by rw [f_wat (kd_lt hk (by omega)), f_ent_l hk]) rfl hi hdg (fun H1 locs1 h1 _ h3 => kk H1 locs1 ?_ h3)
  skip
  rw [f_set (σ := σ) (τ := sL σ k i.toNatClampNeg x) (by rw [f_ent_l hk, sL_at]) (fun a ha => ⟨rfl, (sL_ne σ _ _ ha).symm⟩)] at h1
  exact h1
theorem x_alen (F : fX p m c s args E own cc nL) (hP : f_h E σ H) {n : Nat} (hk : kd k = 10) (hn : ln k = n) {v : Int32} (hv : Int32.ofNat n = v) (hdg : decode cc pc = .ok (.arraylength, 1))
    (kk : W p l e R s m args below meth c H locs cells slots Q (F0 m (pc + 1) ls (.int v :: rest))) : W p l e R s m args below meth c H locs cells slots Q (F0 m pc ls (.ref (E.2.1 k) :: rest)) := by
  obtain ⟨⟨hx, hb, hml, hown, hts⟩, hok⟩ := F
  subst hn
  exact va_alen hx hb hok.1 hP k 0 (x := (ln k, .inl (σ.1 k))) (by rw [f_wat (kd_lt hk (by omega)), f_ent_i hk]) (ty := .int) rfl hv hdg kk
theorem x_zB (x : Int32) (h : x = 0 ∨ x = 1) : vp_nar .boolean x = x := by
  rcases h with rfl | rfl <;> rfl
theorem x_zN (x : Int32) (h : x = 0 ∨ x = 1) : narrow .boolean (.int x) = .int x := by
  rcases h with rfl | rfl <;> rfl
theorem x_zF (x : Int32) (h : x = 0 ∨ x = 1) : fits .boolean (.int x) = true := by
  rcases h with rfl | rfl <;> rfl
theorem x_irem (F : fX p m c s args E own cc nL) {x y : Int32} (hdg : decode cc pc = .ok (.irem, 1)) (hne : ¬ y = 0) (kk : W p l e R s m args below meth c H locs cells slots Q (F0 m (pc + 1) ls (.int (iR x y) :: rest))) : W p l e R s m args below meth c H locs cells slots Q (F0 m pc ls (.int y :: .int x :: rest)) := lv_irem F.1.1 F.1.2.1 hdg hne kk
theorem x_gsB (F : fX p m c s args E "FormPlaces" cc nL) (hS : va_S (f_A E) s.heap H locs) {index : Nat} (hlink : Cond.fieldLink "FormPlaces" index "FormPlaces" "BASES" "[I" ∈ fTb) (hdg : decode cc pc = .ok (.getstatic index, 3)) (kk : W p l e R s m args below meth c H locs cells slots Q (F0 m (pc + 3) ls (.ref E.2.2.2.1 :: rest))) : W p l e R s m args below meth c H locs cells slots Q (F0 m pc ls rest) := va_gets F.1.1 F.1.2.1 F.2.2.2.1.1 hS F.1.2.2.2.1 (F.1.2.2.2.2 _ hlink) (fun _ h => h) hdg kk
theorem x_gnB2 (F : fX p m c s args E RX2 cc nL) (hS : va_S (f_A E) s.heap H locs) (hdg : decode cc pc = .ok (.getstatic 9, 3)) (kk : W p l e R s m args below meth c H locs cells slots Q (F0 m (pc + 3) ls (.ref E.2.2.2.1 :: rest))) : W p l e R s m args below meth c H locs cells slots Q (F0 m pc ls rest) := va_getsN F.1.1 F.1.2.1 F.2.2.2.1.1 hS F.1.2.2.2.1 (va_Nw.use rfl F.2.2.2.2.2.1) (fun _ h => h) hdg kk
theorem x_gnB6 (F : fX p m c s args E RX6 cc nL) (hS : va_S (f_A E) s.heap H locs) (hdg : decode cc pc = .ok (.getstatic 51, 3)) (kk : W p l e R s m args below meth c H locs cells slots Q (F0 m (pc + 3) ls (.ref E.2.2.2.1 :: rest))) : W p l e R s m args below meth c H locs cells slots Q (F0 m pc ls rest) := va_getsN F.1.1 F.1.2.1 F.2.2.2.1.1 hS F.1.2.2.2.1 (va_Nw.use rfl F.2.2.2.2.2.2.1) (fun _ h => h) hdg kk
theorem x_gnS6 (F : fX p m c s args E RX6 cc nL) (hS : va_S (f_A E) s.heap H locs) (hdg : decode cc pc = .ok (.getstatic 63, 3)) (kk : W p l e R s m args below meth c H locs cells slots Q (F0 m (pc + 3) ls (.ref E.2.2.2.2 :: rest))) : W p l e R s m args below meth c H locs cells slots Q (F0 m pc ls rest) := va_getsN F.1.1 F.1.2.1 F.2.2.2.2.1.1 hS F.1.2.2.2.1 (va_Nw.use rfl F.2.2.2.2.2.2.2) (fun _ h => h) hdg kk
theorem x_slB (F : fX p m c s args E own cc nL) (hS : va_S (f_A E) s.heap H locs) (hdg : decode cc pc = .ok (.arraylength, 1)) (kk : W p l e R s m args below meth c H locs cells slots Q (F0 m (pc + 1) ls (.int 7 :: rest))) : W p l e R s m args below meth c H locs cells slots Q (F0 m pc ls (.ref E.2.2.2.1 :: rest)) := va_slen F.1.1 F.1.2.1 F.2.2.2.1.2.1 F.2.2.2.1.2.2.1 F.2.2.2.1.2.2.2 hS hdg kk
theorem x_slS (F : fX p m c s args E own cc nL) (hS : va_S (f_A E) s.heap H locs) (hdg : decode cc pc = .ok (.arraylength, 1)) (kk : W p l e R s m args below meth c H locs cells slots Q (F0 m (pc + 1) ls (.int 7 :: rest))) : W p l e R s m args below meth c H locs cells slots Q (F0 m pc ls (.ref E.2.2.2.2 :: rest)) := va_slen F.1.1 F.1.2.1 F.2.2.2.2.1.2.1 F.2.2.2.2.1.2.2.1 F.2.2.2.2.1.2.2.2 hS hdg kk
theorem x_sdB (F : fX p m c s args E own cc nL) (hS : va_S (f_A E) s.heap H locs) {i : Int32} (hi : vp_in i 7) (hdg : decode cc pc = .ok (.iaload, 1)) (kk : W p l e R s m args below meth c H locs cells slots Q (F0 m (pc + 1) ls (.int (f_B i.toNatClampNeg) :: rest))) : W p l e R s m args below meth c H locs cells slots Q (F0 m pc ls (.int i :: .ref E.2.2.2.1 :: rest)) := va_sld F.1.1 F.1.2.1 F.2.2.2.1.2.1 F.2.2.2.1.2.2.1 F.2.2.2.1.2.2.2 hS hi hdg kk
theorem x_sdS (F : fX p m c s args E own cc nL) (hS : va_S (f_A E) s.heap H locs) {i : Int32} (hi : vp_in i 7) (hdg : decode cc pc = .ok (.iaload, 1)) (kk : W p l e R s m args below meth c H locs cells slots Q (F0 m (pc + 1) ls (.int (f_Sq i.toNatClampNeg) :: rest))) : W p l e R s m args below meth c H locs cells slots Q (F0 m pc ls (.int i :: .ref E.2.2.2.2 :: rest)) := va_sld F.1.1 F.1.2.1 F.2.2.2.2.1.2.1 F.2.2.2.2.1.2.2.1 F.2.2.2.2.1.2.2.2 hS hi hdg kk
theorem x_iret (F : fX p m c s args E own cc nL) (hS : va_S (f_A E) s.heap H locs) (hP : f_h E σ H) (hr : meth.sig.returnType = some .int) (hlk : meth.locks = false) {v r : Int32} (hG : some (v, σ) = some (r, τ)) (hdg : decode cc pc = .ok (.ireturn, 1)) : W p l e R s m args below meth c H locs cells slots (MQ below (fQ E τ (some (.int r))) args s cells slots (f_A E)) (F0 m pc ls [.int v]) := by
  cases hG
  exact W.iret F.1.1 F.1.2.1 hr (fun t ht _ => ⟨rfl, by rw [ht]; exact hP, hS.F ht⟩) hS.2.2 hdg hlk
theorem x_zret (F : fX p m c s args E own cc nL) (hS : va_S (f_A E) s.heap H locs) (hP : f_h E σ H) (hr : meth.sig.returnType = some .boolean) (hlk : meth.locks = false) {v r : Int32} (hv : v = 0 ∨ v = 1) (hG : some (v, σ) = some (r, τ)) (hdg : decode cc pc = .ok (.ireturn, 1)) : W p l e R s m args below meth c H locs cells slots (MQ below (fQ E τ (some (.int r))) args s cells slots (f_A E)) (F0 m pc ls [.int v]) := by
  cases hG
  exact W.zret F.1.1 F.1.2.1 hr (x_zN v hv) (fun t ht _ => ⟨rfl, by rw [ht]; exact hP, hS.F ht⟩) hS.2.2 hdg hlk
theorem x_lret (F : fX p m c s args E own cc nL) (hS : va_S (f_A E) s.heap H locs) (hP : f_h E σ H) (hr : meth.sig.returnType = some .long) (hlk : meth.locks = false) {v r : Int64} (hG : some (v, σ) = some (r, τ)) (hdg : decode cc pc = .ok (.lreturn, 1)) : W p l e R s m args below meth c H locs cells slots (MQ below (fQ E τ (some (.long r))) args s cells slots (f_A E)) (F0 m pc ls [.long v]) := by
  cases hG
  exact W.lret F.1.1 F.1.2.1 hr (fun t ht _ => ⟨rfl, by rw [ht]; exact hP, hS.F ht⟩) hS.2.2 hdg hlk
theorem x_vret (F : fX p m c s args E own cc nL) (hS : va_S (f_A E) s.heap H locs) (hP : f_h E σ H) (hr : meth.sig.returnType = none) (hlk : meth.locks = false) (hG : some σ = some τ) (hdg : decode cc pc = .ok (.return_, 1)) : W p l e R s m args below meth c H locs cells slots (MQ below (fQ E τ none) args s cells slots (f_A E)) (F0 m pc ls []) := by
  cases hG
  exact W.vret F.1.1 F.1.2.1 hr (fun t ht _ => ⟨rfl, by rw [ht]; exact hP, hS.F ht⟩) hS.2.2 hdg hlk
theorem f_call {st0 : List Value} {o : Option Value} {a : Array Value} (hr : va_Run p l e R s m args below meth c H locs cells slots 0 0 (F0 m pc ls st0) rest (fQ E τ o a) (f_A E)) (hS : va_S (f_A E) s.heap H locs)
    (kk : ∀ (H1 : Heap) (locs1 : List Loc), f_h E τ H1 → va_S (f_A E) s.heap H1 locs1 → W p l e R s m args below meth c H1 locs1 cells slots Q (F0 m (pc + 3) ls (o.toList ++ rest))) : W p l e R s m args below meth c H locs cells slots Q (F0 m pc ls st0) := by
  intro T hT X
  obtain ⟨v, st₀, t, T', L, h0, X', hL, e1, e2, ⟨hv, hh, hz, hk⟩, st⟩ := hr T hT X
  cases hv
  rw [h0] at hz hk
  obtain ⟨t2, a1, b1⟩ := kk T'.heap (locs ++ L) (by rw [e1]; exact hh)
    ⟨Nat.le_trans hS.1 (by rw [e1]; exact hz), fun q h1 h2 => by rw [e1, hk q (Nat.lt_of_lt_of_le h1 hS.1) h2]; exact hS.2.1 q h1 h2, fun q hq => by
      rcases List.mem_append.mp hq with h | h
      · exact hS.2.2 q h
      · exact hL q h⟩ T' rfl X'
  exact ⟨t2, st t2 a1, b1⟩
theorem x_callS (F : fX p m c s args E own cc nL) (hS : va_S (f_A E) s.heap H locs) (hP : f_h E σ H) {y : MethodName} {bytes : ByteArray} {maxL n index : Nat} {ret : Option FieldType} {rm : Room} {o : Option Value} {As : List Value} (hM : fM l E y (.code y bytes maxL ret) rm As σ τ o) (hcode : Cond.code y bytes maxL ret ∈ fTb) (hlink : Cond.methodLink own index y ∈ fTb) (hst : Cond.static y ∈ fTb) (hini : Cond.initialized y.cls ∈ fTb) (hrc : rm.cells = 0) (hrs : rm.slots = 0)
    (hd : y.cls ≠ "java/lang/invoke/MethodHandle" ∧ y.cls ≠ "java/lang/invoke/VarHandle" ∧ (parseMethodDescriptor y.desc).map (fun d => d.parameters.length) = some n) (hR : rm.frames + 1 ≤ R.frames ∧ 8 + (maxL + 11) + rm.locals ≤ R.locals) (hn : As.length = n) (hsz : ls.size = nL) {st0 : List Value} (hstack : st0 = As.reverse ++ rest) (hroom : (rest.map fun v => v.category).sum ≤ 8) (hdg : decode cc pc = .ok (.invokestatic index, 3)) (hf : cells ≤ R.cells ∧ slots ≤ R.slots)
    (kk : ∀ (H1 : Heap) (locs1 : List Loc), f_h E τ H1 → va_S (f_A E) s.heap H1 locs1 → W p l e R s m args below meth c H1 locs1 cells slots Q (F0 m (pc + 3) ls (o.toList ++ rest))) : W p l e R s m args below meth c H locs cells slots Q (F0 m pc ls st0) := by
  have hok := F.2
  have hts := F.1.2.2.2.2
  refine f_call (va_runS (As := As) (rest := rest) F.1 hM ⟨callB_of n hts (f_good hcode) rfl hrc hrs (hts _ hini) (hts _ hlink) hd hR, hts _ hst⟩ ⟨fP_blind, fun U hU hW => ⟨rfl, hok.go hS hU hW, by rw [hU]; exact hP⟩⟩ rfl hn hsz hstack (lv_room hroom) hdg hf) hS kk
theorem x_callV (F : fX p m c s args E own cc nL) (hS : va_S (f_A E) s.heap H locs) (hP : f_h E σ H) {y : MethodName} {bytes : ByteArray} {maxL n index ci : Nat} {ret : Option FieldType} {rm : Room} {o : Option Value} {As : List Value} {C : String} {T : u_T} {NN : Nat} (hM : fM l E y (.code y bytes maxL ret) rm (.ref (E.2.1 k) :: As) σ τ o) (hk : kd k = ci) (hci : ci < 8) (hc : f_cl[ci]? = some (C, T, NN)) (hcode : Cond.code y bytes maxL ret ∈ fTb) (hlink : Cond.methodLink own index y ∈ fTb) (hin : Cond.instanceMethod y ∈ fTb) (hsel : Cond.selects C y y ∈ fTb) (hini : Cond.initialized y.cls ∈ fTb) (hrc : rm.cells = 0) (hrs : rm.slots = 0)
    (hd : y.cls ≠ "java/lang/invoke/MethodHandle" ∧ y.cls ≠ "java/lang/invoke/VarHandle" ∧ (parseMethodDescriptor y.desc).map (fun d => d.parameters.length) = some n) (hR : rm.frames + 1 ≤ R.frames ∧ 8 + (maxL + 11) + rm.locals ≤ R.locals) (hn : As.length = n) (hsz : ls.size = nL) {st0 : List Value} (hstack : st0 = As.reverse ++ .ref (E.2.1 k) :: rest) (hroom : (rest.map fun v => v.category).sum ≤ 8) (hdg : decode cc pc = .ok (.invokevirtual index, 3)) (hf : cells ≤ R.cells ∧ slots ≤ R.slots)
    (kk : ∀ (H1 : Heap) (locs1 : List Loc), f_h E τ H1 → va_S (f_A E) s.heap H1 locs1 → W p l e R s m args below meth c H1 locs1 cells slots Q (F0 m (pc + 3) ls (o.toList ++ rest))) : W p l e R s m args below meth c H locs cells slots Q (F0 m pc ls st0) := by
  have hok := F.2
  have hts := F.1.2.2.2.2
  refine f_call (va_runV (As := As) (rest := rest) F.1 hM ⟨callB_of n hts (f_good hcode) rfl hrc hrs (hts _ hini) (hts _ hlink) hd hR, hts _ hin, hts _ hsel⟩ ⟨fP_blind, va_recv hok.1 hP (ci := ci) (q0 := k) hc (by rw [f_wat (kd_lt hk (by omega)), f_ent_o hk hci]), fun U hU hW => ⟨rfl, hok.go hS hU hW, by rw [hU]; exact hP⟩⟩ rfl hn hsz hstack (lv_room hroom) hdg hf) hS kk
end FROWS
end
