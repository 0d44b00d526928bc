section
-- ===== PART A: goes FIRST, ahead of the names: the tables' words, and 'selects' of the private methods out of them =====
/-- a private method of a class that the tables say can be made, by its rows of tables_1 -/
def lw_okq (q : MethodName × Nat) : Prop := (q.1.cls ≠ "java/lang/invoke/MethodHandle" ∧ q.1.cls ≠ "java/lang/invoke/VarHandle") ∧ Cond.instantiable q.1.cls q.2 ∈ tables_1 ∧ Cond.privateMethod q.1 ∈ tables_1 ∧ Cond.instanceMethod q.1 ∈ tables_1
theorem lw_p0 : lw_okq (⟨"RealmTiles$Table", "openSide", "(III)V"⟩, 12) := ⟨⟨by decide +kernel, by decide +kernel⟩, List.mem_of_getElem? (i := 71) (by decide +kernel), List.mem_of_getElem? (i := 395) (by decide +kernel), List.mem_of_getElem? (i := 396) (by decide +kernel)⟩
theorem lw_p1 : lw_okq (⟨"RealmTiles$Table", "pieceAt", "(II)I"⟩, 12) := ⟨⟨by decide +kernel, by decide +kernel⟩, List.mem_of_getElem? (i := 71) (by decide +kernel), List.mem_of_getElem? (i := 399) (by decide +kernel), List.mem_of_getElem? (i := 400) (by decide +kernel)⟩
theorem lw_p2 : lw_okq (⟨"RealmTiles$Match", "restore", "()V"⟩, 13) := ⟨⟨by decide +kernel, by decide +kernel⟩, List.mem_of_getElem? (i := 176) (by decide +kernel), List.mem_of_getElem? (i := 412) (by decide +kernel), List.mem_of_getElem? (i := 413) (by decide +kernel)⟩
theorem lw_p3 : lw_okq (⟨"RealmTiles$Match", "drawNext", "()V"⟩, 13) := ⟨⟨by decide +kernel, by decide +kernel⟩, List.mem_of_getElem? (i := 176) (by decide +kernel), List.mem_of_getElem? (i := 421) (by decide +kernel), List.mem_of_getElem? (i := 422) (by decide +kernel)⟩
theorem lw_p4 : lw_okq (⟨"RealmTiles$Table", "sidesMatch", "(III)Z"⟩, 12) := ⟨⟨by decide +kernel, by decide +kernel⟩, List.mem_of_getElem? (i := 71) (by decide +kernel), List.mem_of_getElem? (i := 429) (by decide +kernel), List.mem_of_getElem? (i := 430) (by decide +kernel)⟩
theorem lw_p5 : lw_okq (⟨"RealmTiles$Table", "joinSide", "(II)V"⟩, 12) := ⟨⟨by decide +kernel, by decide +kernel⟩, List.mem_of_getElem? (i := 71) (by decide +kernel), List.mem_of_getElem? (i := 490) (by decide +kernel), List.mem_of_getElem? (i := 491) (by decide +kernel)⟩
theorem lw_p6 : lw_okq (⟨"RealmTiles$Match", "save", "()V"⟩, 13) := ⟨⟨by decide +kernel, by decide +kernel⟩, List.mem_of_getElem? (i := 176) (by decide +kernel), List.mem_of_getElem? (i := 521) (by decide +kernel), List.mem_of_getElem? (i := 522) (by decide +kernel)⟩
theorem lw_p7 : lw_okq (⟨"RealmTiles$Match", "settle", "()I"⟩, 13) := ⟨⟨by decide +kernel, by decide +kernel⟩, List.mem_of_getElem? (i := 176) (by decide +kernel), List.mem_of_getElem? (i := 532) (by decide +kernel), List.mem_of_getElem? (i := 533) (by decide +kernel)⟩
theorem lw_p8 : lw_okq (⟨"RealmTiles$Match", "pay", "(I)I"⟩, 13) := ⟨⟨by decide +kernel, by decide +kernel⟩, List.mem_of_getElem? (i := 176) (by decide +kernel), List.mem_of_getElem? (i := 536) (by decide +kernel), List.mem_of_getElem? (i := 537) (by decide +kernel)⟩
theorem lw_p9 : lw_okq (⟨"RealmTiles$Table", "finishedCitiesAt", "(I)I"⟩, 12) := ⟨⟨by decide +kernel, by decide +kernel⟩, List.mem_of_getElem? (i := 71) (by decide +kernel), List.mem_of_getElem? (i := 601) (by decide +kernel), List.mem_of_getElem? (i := 602) (by decide +kernel)⟩
theorem lw_p10 : lw_okq (⟨"RealmTiles$Table", "newFinishedCities", "(II)I"⟩, 12) := ⟨⟨by decide +kernel, by decide +kernel⟩, List.mem_of_getElem? (i := 71) (by decide +kernel), List.mem_of_getElem? (i := 605) (by decide +kernel), List.mem_of_getElem? (i := 606) (by decide +kernel)⟩
theorem lw_p11 : lw_okq (⟨"RealmTiles$Match", "addFinals", "(II)V"⟩, 13) := ⟨⟨by decide +kernel, by decide +kernel⟩, List.mem_of_getElem? (i := 176) (by decide +kernel), List.mem_of_getElem? (i := 609) (by decide +kernel), List.mem_of_getElem? (i := 610) (by decide +kernel)⟩
theorem lw_p12 : lw_okq (⟨"RealmTiles$Seeker", "makeNextLine", "(LRealmTiles$Level;)Z"⟩, 6) := ⟨⟨by decide +kernel, by decide +kernel⟩, List.mem_of_getElem? (i := 235) (by decide +kernel), List.mem_of_getElem? (i := 626) (by decide +kernel), List.mem_of_getElem? (i := 627) (by decide +kernel)⟩
theorem lw_p13 : lw_okq (⟨"RealmTiles$Seeker", "lookBehindLine", "(I)I"⟩, 6) := ⟨⟨by decide +kernel, by decide +kernel⟩, List.mem_of_getElem? (i := 235) (by decide +kernel), List.mem_of_getElem? (i := 635) (by decide +kernel), List.mem_of_getElem? (i := 636) (by decide +kernel)⟩
theorem lw_p14 : lw_okq (⟨"RealmTiles$Seeker", "endLine", "(I)V"⟩, 6) := ⟨⟨by decide +kernel, by decide +kernel⟩, List.mem_of_getElem? (i := 235) (by decide +kernel), List.mem_of_getElem? (i := 648) (by decide +kernel), List.mem_of_getElem? (i := 649) (by decide +kernel)⟩
theorem lw_p15 : lw_okq (⟨"RealmTilesModel", "begin", "()V"⟩, 34) := ⟨⟨by decide +kernel, by decide +kernel⟩, List.mem_of_getElem? (i := 656) (by decide +kernel), List.mem_of_getElem? (i := 796) (by decide +kernel), List.mem_of_getElem? (i := 797) (by decide +kernel)⟩
def lw_privs_1 : List (MethodName × Nat) := [(⟨"RealmTiles$Table", "openSide", "(III)V"⟩, 12), (⟨"RealmTiles$Table", "pieceAt", "(II)I"⟩, 12), (⟨"RealmTiles$Match", "restore", "()V"⟩, 13), (⟨"RealmTiles$Match", "drawNext", "()V"⟩, 13), (⟨"RealmTiles$Table", "sidesMatch", "(III)Z"⟩, 12), (⟨"RealmTiles$Table", "joinSide", "(II)V"⟩, 12), (⟨"RealmTiles$Match", "save", "()V"⟩, 13), (⟨"RealmTiles$Match", "settle", "()I"⟩, 13), (⟨"RealmTiles$Match", "pay", "(I)I"⟩, 13), (⟨"RealmTiles$Table", "finishedCitiesAt", "(I)I"⟩, 12), (⟨"RealmTiles$Table", "newFinishedCities", "(II)I"⟩, 12), (⟨"RealmTiles$Match", "addFinals", "(II)V"⟩, 13), (⟨"RealmTiles$Seeker", "makeNextLine", "(LRealmTiles$Level;)Z"⟩, 6), (⟨"RealmTiles$Seeker", "lookBehindLine", "(I)I"⟩, 6), (⟨"RealmTiles$Seeker", "endLine", "(I)V"⟩, 6), (⟨"RealmTilesModel", "begin", "()V"⟩, 34)]
theorem lw_r1 : ∀ q ∈ lw_privs_1, lw_okq q := List.forall_mem_cons.mpr ⟨lw_p0, List.forall_mem_cons.mpr ⟨lw_p1, List.forall_mem_cons.mpr ⟨lw_p2, List.forall_mem_cons.mpr ⟨lw_p3, List.forall_mem_cons.mpr ⟨lw_p4, List.forall_mem_cons.mpr ⟨lw_p5, List.forall_mem_cons.mpr ⟨lw_p6, List.forall_mem_cons.mpr ⟨lw_p7, List.forall_mem_cons.mpr ⟨lw_p8, List.forall_mem_cons.mpr ⟨lw_p9, List.forall_mem_cons.mpr ⟨lw_p10, List.forall_mem_cons.mpr ⟨lw_p11, List.forall_mem_cons.mpr ⟨lw_p12, List.forall_mem_cons.mpr ⟨lw_p13, List.forall_mem_cons.mpr ⟨lw_p14, List.forall_mem_cons.mpr ⟨lw_p15, fun _ h => absurd h List.not_mem_nil⟩⟩⟩⟩⟩⟩⟩⟩⟩⟩⟩⟩⟩⟩⟩⟩
theorem lw_p16 : lw_okq (⟨"RealmTilesModel", "drawNext", "()V"⟩, 34) := ⟨⟨by decide +kernel, by decide +kernel⟩, List.mem_of_getElem? (i := 656) (by decide +kernel), List.mem_of_getElem? (i := 800) (by decide +kernel), List.mem_of_getElem? (i := 801) (by decide +kernel)⟩
theorem lw_p17 : lw_okq (⟨"RealmTilesModel", "fitting", "(II)I"⟩, 34) := ⟨⟨by decide +kernel, by decide +kernel⟩, List.mem_of_getElem? (i := 656) (by decide +kernel), List.mem_of_getElem? (i := 804) (by decide +kernel), List.mem_of_getElem? (i := 805) (by decide +kernel)⟩
theorem lw_p18 : lw_okq (⟨"RealmTilesModel", "fitsAt", "(IIII)Z"⟩, 34) := ⟨⟨by decide +kernel, by decide +kernel⟩, List.mem_of_getElem? (i := 656) (by decide +kernel), List.mem_of_getElem? (i := 808) (by decide +kernel), List.mem_of_getElem? (i := 809) (by decide +kernel)⟩
theorem lw_p19 : lw_okq (⟨"RealmTilesModel", "tileAt", "(II)I"⟩, 34) := ⟨⟨by decide +kernel, by decide +kernel⟩, List.mem_of_getElem? (i := 656) (by decide +kernel), List.mem_of_getElem? (i := 815) (by decide +kernel), List.mem_of_getElem? (i := 816) (by decide +kernel)⟩
theorem lw_p20 : lw_okq (⟨"RealmTilesModel", "beside", "(III)I"⟩, 34) := ⟨⟨by decide +kernel, by decide +kernel⟩, List.mem_of_getElem? (i := 656) (by decide +kernel), List.mem_of_getElem? (i := 819) (by decide +kernel), List.mem_of_getElem? (i := 820) (by decide +kernel)⟩
theorem lw_p21 : lw_okq (⟨"RealmTilesModel", "kindAt", "(II)I"⟩, 34) := ⟨⟨by decide +kernel, by decide +kernel⟩, List.mem_of_getElem? (i := 656) (by decide +kernel), List.mem_of_getElem? (i := 826) (by decide +kernel), List.mem_of_getElem? (i := 827) (by decide +kernel)⟩
theorem lw_p22 : lw_okq (⟨"RealmTilesModel", "partAt", "(III)I"⟩, 34) := ⟨⟨by decide +kernel, by decide +kernel⟩, List.mem_of_getElem? (i := 656) (by decide +kernel), List.mem_of_getElem? (i := 830) (by decide +kernel), List.mem_of_getElem? (i := 831) (by decide +kernel)⟩
theorem lw_p23 : lw_okq (⟨"RealmTilesModel", "isToLay", "()Z"⟩, 34) := ⟨⟨by decide +kernel, by decide +kernel⟩, List.mem_of_getElem? (i := 656) (by decide +kernel), List.mem_of_getElem? (i := 850) (by decide +kernel), List.mem_of_getElem? (i := 851) (by decide +kernel)⟩
theorem lw_p24 : lw_okq (⟨"RealmTilesModel", "lay", "(III)V"⟩, 34) := ⟨⟨by decide +kernel, by decide +kernel⟩, List.mem_of_getElem? (i := 656) (by decide +kernel), List.mem_of_getElem? (i := 858) (by decide +kernel), List.mem_of_getElem? (i := 859) (by decide +kernel)⟩
theorem lw_p25 : lw_okq (⟨"RealmTilesModel", "note", "(IIII)V"⟩, 34) := ⟨⟨by decide +kernel, by decide +kernel⟩, List.mem_of_getElem? (i := 656) (by decide +kernel), List.mem_of_getElem? (i := 862) (by decide +kernel), List.mem_of_getElem? (i := 863) (by decide +kernel)⟩
theorem lw_p26 : lw_okq (⟨"RealmTilesModel", "mayFollow", "(I)Z"⟩, 34) := ⟨⟨by decide +kernel, by decide +kernel⟩, List.mem_of_getElem? (i := 656) (by decide +kernel), List.mem_of_getElem? (i := 870) (by decide +kernel), List.mem_of_getElem? (i := 871) (by decide +kernel)⟩
theorem lw_p27 : lw_okq (⟨"RealmTilesModel", "kindOfPiece", "(I)I"⟩, 34) := ⟨⟨by decide +kernel, by decide +kernel⟩, List.mem_of_getElem? (i := 656) (by decide +kernel), List.mem_of_getElem? (i := 874) (by decide +kernel), List.mem_of_getElem? (i := 875) (by decide +kernel)⟩
theorem lw_p28 : lw_okq (⟨"RealmTilesModel", "giveLabels", "()V"⟩, 34) := ⟨⟨by decide +kernel, by decide +kernel⟩, List.mem_of_getElem? (i := 656) (by decide +kernel), List.mem_of_getElem? (i := 878) (by decide +kernel), List.mem_of_getElem? (i := 879) (by decide +kernel)⟩
theorem lw_p29 : lw_okq (⟨"RealmTilesModel", "hasFollowers", "(I)Z"⟩, 34) := ⟨⟨by decide +kernel, by decide +kernel⟩, List.mem_of_getElem? (i := 656) (by decide +kernel), List.mem_of_getElem? (i := 882) (by decide +kernel), List.mem_of_getElem? (i := 883) (by decide +kernel)⟩
theorem lw_p30 : lw_okq (⟨"RealmTilesModel", "put", "(I)I"⟩, 34) := ⟨⟨by decide +kernel, by decide +kernel⟩, List.mem_of_getElem? (i := 656) (by decide +kernel), List.mem_of_getElem? (i := 886) (by decide +kernel), List.mem_of_getElem? (i := 887) (by decide +kernel)⟩
theorem lw_p31 : lw_okq (⟨"RealmTilesModel", "score", "(I)I"⟩, 34) := ⟨⟨by decide +kernel, by decide +kernel⟩, List.mem_of_getElem? (i := 656) (by decide +kernel), List.mem_of_getElem? (i := 890) (by decide +kernel), List.mem_of_getElem? (i := 891) (by decide +kernel)⟩
def lw_privs_2 : List (MethodName × Nat) := [(⟨"RealmTilesModel", "drawNext", "()V"⟩, 34), (⟨"RealmTilesModel", "fitting", "(II)I"⟩, 34), (⟨"RealmTilesModel", "fitsAt", "(IIII)Z"⟩, 34), (⟨"RealmTilesModel", "tileAt", "(II)I"⟩, 34), (⟨"RealmTilesModel", "beside", "(III)I"⟩, 34), (⟨"RealmTilesModel", "kindAt", "(II)I"⟩, 34), (⟨"RealmTilesModel", "partAt", "(III)I"⟩, 34), (⟨"RealmTilesModel", "isToLay", "()Z"⟩, 34), (⟨"RealmTilesModel", "lay", "(III)V"⟩, 34), (⟨"RealmTilesModel", "note", "(IIII)V"⟩, 34), (⟨"RealmTilesModel", "mayFollow", "(I)Z"⟩, 34), (⟨"RealmTilesModel", "kindOfPiece", "(I)I"⟩, 34), (⟨"RealmTilesModel", "giveLabels", "()V"⟩, 34), (⟨"RealmTilesModel", "hasFollowers", "(I)Z"⟩, 34), (⟨"RealmTilesModel", "put", "(I)I"⟩, 34), (⟨"RealmTilesModel", "score", "(I)I"⟩, 34)]
theorem lw_r2 : ∀ q ∈ lw_privs_2, lw_okq q := List.forall_mem_cons.mpr ⟨lw_p16, List.forall_mem_cons.mpr ⟨lw_p17, List.forall_mem_cons.mpr ⟨lw_p18, List.forall_mem_cons.mpr ⟨lw_p19, List.forall_mem_cons.mpr ⟨lw_p20, List.forall_mem_cons.mpr ⟨lw_p21, List.forall_mem_cons.mpr ⟨lw_p22, List.forall_mem_cons.mpr ⟨lw_p23, List.forall_mem_cons.mpr ⟨lw_p24, List.forall_mem_cons.mpr ⟨lw_p25, List.forall_mem_cons.mpr ⟨lw_p26, List.forall_mem_cons.mpr ⟨lw_p27, List.forall_mem_cons.mpr ⟨lw_p28, List.forall_mem_cons.mpr ⟨lw_p29, List.forall_mem_cons.mpr ⟨lw_p30, List.forall_mem_cons.mpr ⟨lw_p31, fun _ h => absurd h List.not_mem_nil⟩⟩⟩⟩⟩⟩⟩⟩⟩⟩⟩⟩⟩⟩⟩⟩
theorem lw_p32 : lw_okq (⟨"RealmTilesModel", "isFinished", "(I)Z"⟩, 34) := ⟨⟨by decide +kernel, by decide +kernel⟩, List.mem_of_getElem? (i := 656) (by decide +kernel), List.mem_of_getElem? (i := 894) (by decide +kernel), List.mem_of_getElem? (i := 895) (by decide +kernel)⟩
theorem lw_p33 : lw_okq (⟨"RealmTilesModel", "around", "(I)I"⟩, 34) := ⟨⟨by decide +kernel, by decide +kernel⟩, List.mem_of_getElem? (i := 656) (by decide +kernel), List.mem_of_getElem? (i := 898) (by decide +kernel), List.mem_of_getElem? (i := 899) (by decide +kernel)⟩
theorem lw_p34 : lw_okq (⟨"RealmTilesModel", "openOf", "(I)I"⟩, 34) := ⟨⟨by decide +kernel, by decide +kernel⟩, List.mem_of_getElem? (i := 656) (by decide +kernel), List.mem_of_getElem? (i := 902) (by decide +kernel), List.mem_of_getElem? (i := 903) (by decide +kernel)⟩
theorem lw_p35 : lw_okq (⟨"RealmTilesModel", "tilesOf", "(I)I"⟩, 34) := ⟨⟨by decide +kernel, by decide +kernel⟩, List.mem_of_getElem? (i := 656) (by decide +kernel), List.mem_of_getElem? (i := 906) (by decide +kernel), List.mem_of_getElem? (i := 907) (by decide +kernel)⟩
theorem lw_p36 : lw_okq (⟨"RealmTilesModel", "shieldsOf", "(I)I"⟩, 34) := ⟨⟨by decide +kernel, by decide +kernel⟩, List.mem_of_getElem? (i := 656) (by decide +kernel), List.mem_of_getElem? (i := 910) (by decide +kernel), List.mem_of_getElem? (i := 911) (by decide +kernel)⟩
theorem lw_p37 : lw_okq (⟨"RealmTilesModel", "isFirst", "(II)Z"⟩, 34) := ⟨⟨by decide +kernel, by decide +kernel⟩, List.mem_of_getElem? (i := 656) (by decide +kernel), List.mem_of_getElem? (i := 914) (by decide +kernel), List.mem_of_getElem? (i := 915) (by decide +kernel)⟩
theorem lw_p38 : lw_okq (⟨"RealmTilesModel", "followersOf", "(II)I"⟩, 34) := ⟨⟨by decide +kernel, by decide +kernel⟩, List.mem_of_getElem? (i := 656) (by decide +kernel), List.mem_of_getElem? (i := 918) (by decide +kernel), List.mem_of_getElem? (i := 919) (by decide +kernel)⟩
theorem lw_p39 : lw_okq (⟨"RealmTilesModel", "count", "()V"⟩, 34) := ⟨⟨by decide +kernel, by decide +kernel⟩, List.mem_of_getElem? (i := 656) (by decide +kernel), List.mem_of_getElem? (i := 938) (by decide +kernel), List.mem_of_getElem? (i := 939) (by decide +kernel)⟩
theorem lw_p40 : lw_okq (⟨"RealmTilesModel", "finalWorth", "(I)I"⟩, 34) := ⟨⟨by decide +kernel, by decide +kernel⟩, List.mem_of_getElem? (i := 656) (by decide +kernel), List.mem_of_getElem? (i := 942) (by decide +kernel), List.mem_of_getElem? (i := 943) (by decide +kernel)⟩
theorem lw_p41 : lw_okq (⟨"RealmTilesModel", "citiesAt", "(I)I"⟩, 34) := ⟨⟨by decide +kernel, by decide +kernel⟩, List.mem_of_getElem? (i := 656) (by decide +kernel), List.mem_of_getElem? (i := 946) (by decide +kernel), List.mem_of_getElem? (i := 947) (by decide +kernel)⟩
theorem lw_p42 : lw_okq (⟨"RealmTilesModel", "copy", "(I)V"⟩, 34) := ⟨⟨by decide +kernel, by decide +kernel⟩, List.mem_of_getElem? (i := 656) (by decide +kernel), List.mem_of_getElem? (i := 955) (by decide +kernel), List.mem_of_getElem? (i := 956) (by decide +kernel)⟩
theorem lw_p43 : lw_okq (⟨"RealmTilesModel", "reply", "(I)V"⟩, 34) := ⟨⟨by decide +kernel, by decide +kernel⟩, List.mem_of_getElem? (i := 656) (by decide +kernel), List.mem_of_getElem? (i := 959) (by decide +kernel), List.mem_of_getElem? (i := 960) (by decide +kernel)⟩
theorem lw_p44 : lw_okq (⟨"RealmTilesModel", "ahead", "([II)I"⟩, 34) := ⟨⟨by decide +kernel, by decide +kernel⟩, List.mem_of_getElem? (i := 656) (by decide +kernel), List.mem_of_getElem? (i := 963) (by decide +kernel), List.mem_of_getElem? (i := 964) (by decide +kernel)⟩
theorem lw_p45 : lw_okq (⟨"RealmTilesModel", "restore", "(I)V"⟩, 34) := ⟨⟨by decide +kernel, by decide +kernel⟩, List.mem_of_getElem? (i := 656) (by decide +kernel), List.mem_of_getElem? (i := 967) (by decide +kernel), List.mem_of_getElem? (i := 968) (by decide +kernel)⟩
def lw_privs_3 : List (MethodName × Nat) := [(⟨"RealmTilesModel", "isFinished", "(I)Z"⟩, 34), (⟨"RealmTilesModel", "around", "(I)I"⟩, 34), (⟨"RealmTilesModel", "openOf", "(I)I"⟩, 34), (⟨"RealmTilesModel", "tilesOf", "(I)I"⟩, 34), (⟨"RealmTilesModel", "shieldsOf", "(I)I"⟩, 34), (⟨"RealmTilesModel", "isFirst", "(II)Z"⟩, 34), (⟨"RealmTilesModel", "followersOf", "(II)I"⟩, 34), (⟨"RealmTilesModel", "count", "()V"⟩, 34), (⟨"RealmTilesModel", "finalWorth", "(I)I"⟩, 34), (⟨"RealmTilesModel", "citiesAt", "(I)I"⟩, 34), (⟨"RealmTilesModel", "copy", "(I)V"⟩, 34), (⟨"RealmTilesModel", "reply", "(I)V"⟩, 34), (⟨"RealmTilesModel", "ahead", "([II)I"⟩, 34), (⟨"RealmTilesModel", "restore", "(I)V"⟩, 34)]
theorem lw_r3 : ∀ q ∈ lw_privs_3, lw_okq q := List.forall_mem_cons.mpr ⟨lw_p32, List.forall_mem_cons.mpr ⟨lw_p33, List.forall_mem_cons.mpr ⟨lw_p34, List.forall_mem_cons.mpr ⟨lw_p35, List.forall_mem_cons.mpr ⟨lw_p36, List.forall_mem_cons.mpr ⟨lw_p37, List.forall_mem_cons.mpr ⟨lw_p38, List.forall_mem_cons.mpr ⟨lw_p39, List.forall_mem_cons.mpr ⟨lw_p40, List.forall_mem_cons.mpr ⟨lw_p41, List.forall_mem_cons.mpr ⟨lw_p42, List.forall_mem_cons.mpr ⟨lw_p43, List.forall_mem_cons.mpr ⟨lw_p44, List.forall_mem_cons.mpr ⟨lw_p45, fun _ h => absurd h List.not_mem_nil⟩⟩⟩⟩⟩⟩⟩⟩⟩⟩⟩⟩⟩⟩
def lw_privs : List (MethodName × Nat) := lw_privs_1 ++ (lw_privs_2 ++ (lw_privs_3))
def lw_tbl : List Cond := k2_sels lw_privs ++ tables_1
theorem lw_privs_ok : ∀ q ∈ lw_privs, lw_okq q := by
  show ∀ q ∈ lw_privs_1 ++ (lw_privs_2 ++ (lw_privs_3)), lw_okq q
  exact List.forall_mem_append.mpr ⟨lw_r1, List.forall_mem_append.mpr ⟨lw_r2, lw_r3⟩⟩
end
section
def RX0 : String := "RealmTiles$Kit"
def RX1 : String := "RealmTiles$Level"
def RX2 : String := "RealmTiles$Match"
def RX3 : String := "RealmTiles$Regions"
def RX4 : String := "RealmTiles$Seeker"
def RX5 : String := "RealmTiles$Table"
def RX6 : String := "RealmTiles"
def RX7 : String := "RealmTilesModel"
def RJ6 : String := "java/lang/Integer"
def RJ7 : String := "java/util/Arrays"
def RL : String := "RealmTilesLaw"
def RJ9 : String := "java/lang/Math"
def RJ10 : String := "java/lang/System"
def TX0 : u_T := fun k => match k with
  | 0 => ("RealmTiles$Kit", "partAt", "[I", true)
  | 1 => ("RealmTiles$Kit", "sideKind", "[I", true)
  | 2 => ("RealmTiles$Kit", "kind", "[I", true)
  | 3 => ("RealmTiles$Kit", "shields", "[I", true)
  | 4 => ("RealmTiles$Kit", "touched", "[I", true)
  | 5 => ("RealmTiles$Kit", "slotCount", "[I", true)
  | 6 => ("RealmTiles$Kit", "cloister", "[I", true)
  | 7 => ("RealmTiles$Kit", "list", "[I", true)
  | 8 => ("RealmTiles$Kit", "types", "I", false)
  | _ => ("RealmTiles$Kit", "listed", "I", false)
def tyX0 : Nat → FieldType := fun k => match k with
  | 0 => .array .int
  | 1 => .array .int
  | 2 => .array .int
  | 3 => .array .int
  | 4 => .array .int
  | 5 => .array .int
  | 6 => .array .int
  | 7 => .array .int
  | 8 => .int
  | _ => .int
set_option maxRecDepth 100000 in
theorem nmX0 : ∀ a, a < 10 → ∀ b, b < 10 → a ≠ b → (TX0 a).2.1 ≠ (TX0 b).2.1 := by decide +kernel
theorem tyX0_ok : ∀ k, k < 10 → parseFieldDescriptor (TX0 k).2.2.1 = some (tyX0 k) := by decide +kernel
def TX1 : u_T := fun k => match k with
  | 0 => ("RealmTiles$Level", "mover", "I", false)
  | 1 => ("RealmTiles$Level", "spot", "I", false)
  | 2 => ("RealmTiles$Level", "part", "I", false)
  | 3 => ("RealmTiles$Level", "laid", "Z", false)
  | 4 => ("RealmTiles$Level", "any", "Z", false)
  | 5 => ("RealmTiles$Level", "value", "I", false)
  | 6 => ("RealmTiles$Level", "bestSpot", "I", false)
  | 7 => ("RealmTiles$Level", "bestPart", "I", false)
  | _ => ("RealmTiles$Level", "finals", "[I", true)
def tyX1 : Nat → FieldType := fun k => match k with
  | 0 => .int
  | 1 => .int
  | 2 => .int
  | 3 => .boolean
  | 4 => .boolean
  | 5 => .int
  | 6 => .int
  | 7 => .int
  | _ => .array .int
set_option maxRecDepth 100000 in
theorem nmX1 : ∀ a, a < 9 → ∀ b, b < 9 → a ≠ b → (TX1 a).2.1 ≠ (TX1 b).2.1 := by decide +kernel
theorem tyX1_ok : ∀ k, k < 9 → parseFieldDescriptor (TX1 k).2.2.1 = some (tyX1 k) := by decide +kernel
def TX2 : u_T := fun k => match k with
  | 0 => ("RealmTiles$Match", "kit", "LRealmTiles$Kit;", true)
  | 1 => ("RealmTiles$Match", "table", "LRealmTiles$Table;", true)
  | 2 => ("RealmTiles$Match", "on", "Z", false)
  | 3 => ("RealmTiles$Match", "laid", "Z", false)
  | 4 => ("RealmTiles$Match", "players", "I", false)
  | 5 => ("RealmTiles$Match", "mover", "I", false)
  | 6 => ("RealmTiles$Match", "inHand", "I", false)
  | 7 => ("RealmTiles$Match", "next", "I", false)
  | 8 => ("RealmTiles$Match", "aside", "I", false)
  | 9 => ("RealmTiles$Match", "points", "[I", true)
  | 10 => ("RealmTiles$Match", "left", "[I", true)
  | 11 => ("RealmTiles$Match", "finals", "[I", true)
  | _ => ("RealmTiles$Match", "saved", "[I", true)
def tyX2 : Nat → FieldType := fun k => match k with
  | 0 => .object "RealmTiles$Kit"
  | 1 => .object "RealmTiles$Table"
  | 2 => .boolean
  | 3 => .boolean
  | 4 => .int
  | 5 => .int
  | 6 => .int
  | 7 => .int
  | 8 => .int
  | 9 => .array .int
  | 10 => .array .int
  | 11 => .array .int
  | _ => .array .int
set_option maxRecDepth 100000 in
theorem nmX2 : ∀ a, a < 13 → ∀ b, b < 13 → a ≠ b → (TX2 a).2.1 ≠ (TX2 b).2.1 := by decide +kernel
theorem tyX2_ok : ∀ k, k < 13 → parseFieldDescriptor (TX2 k).2.2.1 = some (tyX2 k) := by decide +kernel
def TX3 : u_T := fun k => match k with
  | 0 => ("RealmTiles$Regions", "up", "[I", true)
  | 1 => ("RealmTiles$Regions", "tileBits", "[I", true)
  | 2 => ("RealmTiles$Regions", "shields", "[I", true)
  | 3 => ("RealmTiles$Regions", "open", "[I", true)
  | 4 => ("RealmTiles$Regions", "men", "[I", true)
  | 5 => ("RealmTiles$Regions", "joined", "[I", true)
  | 6 => ("RealmTiles$Regions", "tileBitsBefore", "[I", true)
  | 7 => ("RealmTiles$Regions", "joins", "I", false)
  | 8 => ("RealmTiles$Regions", "changed", "[I", true)
  | 9 => ("RealmTiles$Regions", "menBefore", "[I", true)
  | _ => ("RealmTiles$Regions", "changes", "I", false)
def tyX3 : Nat → FieldType := fun k => match k with
  | 0 => .array .int
  | 1 => .array .int
  | 2 => .array .int
  | 3 => .array .int
  | 4 => .array .int
  | 5 => .array .int
  | 6 => .array .int
  | 7 => .int
  | 8 => .array .int
  | 9 => .array .int
  | _ => .int
set_option maxRecDepth 100000 in
theorem nmX3 : ∀ a, a < 11 → ∀ b, b < 11 → a ≠ b → (TX3 a).2.1 ≠ (TX3 b).2.1 := by decide +kernel
theorem tyX3_ok : ∀ k, k < 11 → parseFieldDescriptor (TX3 k).2.2.1 = some (tyX3 k) := by decide +kernel
def TX4 : u_T := fun k => match k with
  | 0 => ("RealmTiles$Seeker", "match", "LRealmTiles$Match;", true)
  | 1 => ("RealmTiles$Seeker", "table", "LRealmTiles$Table;", true)
  | 2 => ("RealmTiles$Seeker", "levels", "[LRealmTiles$Level;", true)
  | 3 => ("RealmTiles$Seeker", "spot", "I", false)
  | 4 => ("RealmTiles$Seeker", "part", "I", false)
  | _ => ("RealmTiles$Seeker", "value", "I", false)
def tyX4 : Nat → FieldType := fun k => match k with
  | 0 => .object "RealmTiles$Match"
  | 1 => .object "RealmTiles$Table"
  | 2 => .array (.object "RealmTiles$Level")
  | 3 => .int
  | 4 => .int
  | _ => .int
set_option maxRecDepth 100000 in
theorem nmX4 : ∀ a, a < 6 → ∀ b, b < 6 → a ≠ b → (TX4 a).2.1 ≠ (TX4 b).2.1 := by decide +kernel
theorem tyX4_ok : ∀ k, k < 6 → parseFieldDescriptor (TX4 k).2.2.1 = some (tyX4 k) := by decide +kernel
def TX5 : u_T := fun k => match k with
  | 0 => ("RealmTiles$Table", "kit", "LRealmTiles$Kit;", true)
  | 1 => ("RealmTiles$Table", "regions", "LRealmTiles$Regions;", true)
  | 2 => ("RealmTiles$Table", "at", "[I", true)
  | 3 => ("RealmTiles$Table", "near", "[I", true)
  | 4 => ("RealmTiles$Table", "around", "[I", true)
  | 5 => ("RealmTiles$Table", "cellOf", "[I", true)
  | 6 => ("RealmTiles$Table", "typeOf", "[I", true)
  | 7 => ("RealmTiles$Table", "turnOf", "[I", true)
  | 8 => ("RealmTiles$Table", "joinsBefore", "[I", true)
  | 9 => ("RealmTiles$Table", "tiles", "I", false)
  | 10 => ("RealmTiles$Table", "countedIn", "[I", true)
  | _ => ("RealmTiles$Table", "count", "I", false)
def tyX5 : Nat → FieldType := fun k => match k with
  | 0 => .object "RealmTiles$Kit"
  | 1 => .object "RealmTiles$Regions"
  | 2 => .array .int
  | 3 => .array .int
  | 4 => .array .int
  | 5 => .array .int
  | 6 => .array .int
  | 7 => .array .int
  | 8 => .array .int
  | 9 => .int
  | 10 => .array .int
  | _ => .int
set_option maxRecDepth 100000 in
theorem nmX5 : ∀ a, a < 12 → ∀ b, b < 12 → a ≠ b → (TX5 a).2.1 ≠ (TX5 b).2.1 := by decide +kernel
theorem tyX5_ok : ∀ k, k < 12 → parseFieldDescriptor (TX5 k).2.2.1 = some (tyX5 k) := by decide +kernel
def TX6 : u_T := fun k => match k with
  | 0 => ("RealmTiles", "kit", "LRealmTiles$Kit;", true)
  | 1 => ("RealmTiles", "table", "LRealmTiles$Table;", true)
  | 2 => ("RealmTiles", "match", "LRealmTiles$Match;", true)
  | _ => ("RealmTiles", "seeker", "LRealmTiles$Seeker;", true)
def tyX6 : Nat → FieldType := fun k => match k with
  | 0 => .object "RealmTiles$Kit"
  | 1 => .object "RealmTiles$Table"
  | 2 => .object "RealmTiles$Match"
  | _ => .object "RealmTiles$Seeker"
set_option maxRecDepth 100000 in
theorem nmX6 : ∀ a, a < 4 → ∀ b, b < 4 → a ≠ b → (TX6 a).2.1 ≠ (TX6 b).2.1 := by decide +kernel
theorem tyX6_ok : ∀ k, k < 4 → parseFieldDescriptor (TX6 k).2.2.1 = some (tyX6 k) := by decide +kernel
def TX7 : u_T := fun k => match k with
  | 0 => ("RealmTilesModel", "types", "I", false)
  | 1 => ("RealmTilesModel", "partOf", "[I", true)
  | 2 => ("RealmTilesModel", "kindOf", "[I", true)
  | 3 => ("RealmTilesModel", "shield", "[Z", true)
  | 4 => ("RealmTilesModel", "touch", "[I", true)
  | 5 => ("RealmTilesModel", "listed", "I", false)
  | 6 => ("RealmTilesModel", "list", "[I", true)
  | 7 => ("RealmTilesModel", "on", "Z", false)
  | 8 => ("RealmTilesModel", "players", "I", false)
  | 9 => ("RealmTilesModel", "tiles", "I", false)
  | 10 => ("RealmTilesModel", "tileX", "[I", true)
  | 11 => ("RealmTilesModel", "tileY", "[I", true)
  | 12 => ("RealmTilesModel", "tileType", "[I", true)
  | 13 => ("RealmTilesModel", "tileTurn", "[I", true)
  | 14 => ("RealmTilesModel", "board", "[I", true)
  | 15 => ("RealmTilesModel", "owner", "[I", true)
  | 16 => ("RealmTilesModel", "points", "[I", true)
  | 17 => ("RealmTilesModel", "left", "[I", true)
  | 18 => ("RealmTilesModel", "whose", "I", false)
  | 19 => ("RealmTilesModel", "next", "I", false)
  | 20 => ("RealmTilesModel", "drawn", "I", false)
  | 21 => ("RealmTilesModel", "aside", "I", false)
  | 22 => ("RealmTilesModel", "laid", "Z", false)
  | 23 => ("RealmTilesModel", "steps", "I", false)
  | 24 => ("RealmTilesModel", "step", "[I", true)
  | 25 => ("RealmTilesModel", "label", "[I", true)
  | 26 => ("RealmTilesModel", "labelled", "Z", false)
  | 27 => ("RealmTilesModel", "copies", "[I", true)
  | 28 => ("RealmTilesModel", "finals", "[I", true)
  | 29 => ("RealmTilesModel", "bestFinals", "[I", true)
  | 30 => ("RealmTilesModel", "positions", "I", false)
  | 31 => ("RealmTilesModel", "found", "Z", false)
  | 32 => ("RealmTilesModel", "line", "[I", true)
  | _ => ("RealmTilesModel", "lineNow", "[I", true)
def tyX7 : Nat → FieldType := fun k => match k with
  | 0 => .int
  | 1 => .array .int
  | 2 => .array .int
  | 3 => .array .boolean
  | 4 => .array .int
  | 5 => .int
  | 6 => .array .int
  | 7 => .boolean
  | 8 => .int
  | 9 => .int
  | 10 => .array .int
  | 11 => .array .int
  | 12 => .array .int
  | 13 => .array .int
  | 14 => .array .int
  | 15 => .array .int
  | 16 => .array .int
  | 17 => .array .int
  | 18 => .int
  | 19 => .int
  | 20 => .int
  | 21 => .int
  | 22 => .boolean
  | 23 => .int
  | 24 => .array .int
  | 25 => .array .int
  | 26 => .boolean
  | 27 => .array .int
  | 28 => .array .int
  | 29 => .array .int
  | 30 => .int
  | 31 => .boolean
  | 32 => .array .int
  | _ => .array .int
set_option maxRecDepth 100000 in
theorem nmX7 : ∀ a, a < 34 → ∀ b, b < 34 → a ≠ b → (TX7 a).2.1 ≠ (TX7 b).2.1 := by decide +kernel
theorem tyX7_ok : ∀ k, k < 34 → parseFieldDescriptor (TX7 k).2.2.1 = some (tyX7 k) := by decide +kernel
abbrev vwCl : List vw_C := [(RX0, TX0, 10), (RX1, TX1, 9), (RX2, TX2, 13), (RX3, TX3, 11), (RX4, TX4, 6), (RX5, TX5, 12), (RX6, TX6, 4), (RX7, TX7, 34)]
abbrev cX6_init : ByteArray := prog_1_method_1_code
def yX6_init : MethodName := ⟨RX6, "<init>", "()V"⟩
abbrev cX0_init : ByteArray := prog_2_method_1_code
def yX0_init : MethodName := ⟨RX0, "<init>", "()V"⟩
abbrev cX5_init : ByteArray := prog_7_method_1_code
def yX5_init : MethodName := ⟨RX5, "<init>", "(LRealmTiles$Kit;)V"⟩
abbrev cX3_init : ByteArray := prog_5_method_1_code
def yX3_init : MethodName := ⟨RX3, "<init>", "()V"⟩
abbrev cJ7_fill : ByteArray := prog_13_method_103_code
def yJ7_fill : MethodName := ⟨RJ7, "fill", "([II)V"⟩
abbrev cX2_init : ByteArray := prog_4_method_1_code
def yX2_init : MethodName := ⟨RX2, "<init>", "(LRealmTiles$Kit;LRealmTiles$Table;)V"⟩
abbrev cX4_init : ByteArray := prog_6_method_1_code
def yX4_init : MethodName := ⟨RX4, "<init>", "(LRealmTiles$Match;LRealmTiles$Table;)V"⟩
abbrev cX1_init : ByteArray := prog_3_method_1_code
def yX1_init : MethodName := ⟨RX1, "<init>", "()V"⟩
abbrev cX6_type : ByteArray := prog_1_method_2_code
def yX6_type : MethodName := ⟨RX6, "type", "(JJJ)I"⟩
abbrev cX0_isType : ByteArray := prog_2_method_2_code
def yX0_isType : MethodName := ⟨RX0, "isType", "(JJJ)Z"⟩
abbrev cX0_kindsAreRight : ByteArray := prog_2_method_3_code
def yX0_kindsAreRight : MethodName := ⟨RX0, "kindsAreRight", "(J)Z"⟩
abbrev cX0_byteIn : ByteArray := prog_2_method_9_code
def yX0_byteIn : MethodName := ⟨RX0, "byteIn", "(JI)I"⟩
abbrev cX0_slotsAreRight : ByteArray := prog_2_method_4_code
def yX0_slotsAreRight : MethodName := ⟨RX0, "slotsAreRight", "(JJ)Z"⟩
abbrev cX0_partIn : ByteArray := prog_2_method_8_code
def yX0_partIn : MethodName := ⟨RX0, "partIn", "(JI)I"⟩
abbrev cX0_kindIn : ByteArray := prog_2_method_10_code
def yX0_kindIn : MethodName := ⟨RX0, "kindIn", "(JI)I"⟩
abbrev cX0_hasSlots : ByteArray := prog_2_method_7_code
def yX0_hasSlots : MethodName := ⟨RX0, "hasSlots", "(I)Z"⟩
abbrev cX0_sidesAreRight : ByteArray := prog_2_method_5_code
def yX0_sidesAreRight : MethodName := ⟨RX0, "sidesAreRight", "(JJ)Z"⟩
abbrev cX0_touchesAreRight : ByteArray := prog_2_method_6_code
def yX0_touchesAreRight : MethodName := ⟨RX0, "touchesAreRight", "(JJ)Z"⟩
abbrev cX0_addType : ByteArray := prog_2_method_11_code
def yX0_addType : MethodName := ⟨RX0, "addType", "(JJJ)I"⟩
abbrev cX6_draw : ByteArray := prog_1_method_3_code
def yX6_draw : MethodName := ⟨RX6, "draw", "(I)I"⟩
abbrev cX0_addToList : ByteArray := prog_2_method_12_code
def yX0_addToList : MethodName := ⟨RX0, "addToList", "(I)I"⟩
abbrev cX6_start : ByteArray := prog_1_method_4_code
def yX6_start : MethodName := ⟨RX6, "start", "(I)Z"⟩
abbrev cX4_forget : ByteArray := prog_6_method_2_code
def yX4_forget : MethodName := ⟨RX4, "forget", "()V"⟩
abbrev cX2_begin : ByteArray := prog_4_method_2_code
def yX2_begin : MethodName := ⟨RX2, "begin", "(I)V"⟩
abbrev cX2_end : ByteArray := prog_4_method_3_code
def yX2_end : MethodName := ⟨RX2, "end", "()V"⟩
abbrev cX2_steps : ByteArray := prog_4_method_5_code
def yX2_steps : MethodName := ⟨RX2, "steps", "()I"⟩
abbrev cX2_stepBack : ByteArray := prog_4_method_12_code
def yX2_stepBack : MethodName := ⟨RX2, "stepBack", "()V"⟩
abbrev cX5_liftTile : ByteArray := prog_7_method_6_code
def yX5_liftTile : MethodName := ⟨RX5, "liftTile", "()V"⟩
abbrev cX3_partTo : ByteArray := prog_5_method_5_code
def yX3_partTo : MethodName := ⟨RX3, "partTo", "(I)V"⟩
abbrev cX5_openSide : ByteArray := prog_7_method_7_code
def yX5_openSide : MethodName := ⟨RX5, "openSide", "(III)V"⟩
abbrev cX5_pieceAt : ByteArray := prog_7_method_10_code
def yX5_pieceAt : MethodName := ⟨RX5, "pieceAt", "(II)I"⟩
abbrev cX5_slotBeside : ByteArray := prog_7_method_9_code
def yX5_slotBeside : MethodName := ⟨RX5, "slotBeside", "(I)I"⟩
abbrev cX3_rootOf : ByteArray := prog_5_method_3_code
def yX3_rootOf : MethodName := ⟨RX3, "rootOf", "(I)I"⟩
abbrev cX2_restore : ByteArray := prog_4_method_14_code
def yX2_restore : MethodName := ⟨RX2, "restore", "()V"⟩
abbrev cX3_takeMenBackTo : ByteArray := prog_5_method_7_code
def yX3_takeMenBackTo : MethodName := ⟨RX3, "takeMenBackTo", "(I)V"⟩
abbrev cX2_drawNext : ByteArray := prog_4_method_11_code
def yX2_drawNext : MethodName := ⟨RX2, "drawNext", "()V"⟩
abbrev cX5_nextFit : ByteArray := prog_7_method_2_code
def yX5_nextFit : MethodName := ⟨RX5, "nextFit", "(II)I"⟩
abbrev cX5_sidesMatch : ByteArray := prog_7_method_3_code
def yX5_sidesMatch : MethodName := ⟨RX5, "sidesMatch", "(III)Z"⟩
abbrev cX6_clear : ByteArray := prog_1_method_5_code
def yX6_clear : MethodName := ⟨RX6, "clear", "()V"⟩
abbrev cX0_forget : ByteArray := prog_2_method_13_code
def yX0_forget : MethodName := ⟨RX0, "forget", "()V"⟩
abbrev cX6_drawn : ByteArray := prog_1_method_6_code
def yX6_drawn : MethodName := ⟨RX6, "drawn", "()I"⟩
abbrev cX6_game : ByteArray := prog_1_method_7_code
def yX6_game : MethodName := ⟨RX6, "game", "(I)I"⟩
abbrev cX2_toMove : ByteArray := prog_4_method_4_code
def yX2_toMove : MethodName := ⟨RX2, "toMove", "()I"⟩
abbrev cX6_fits : ByteArray := prog_1_method_8_code
def yX6_fits : MethodName := ⟨RX6, "fits", "(II)I"⟩
abbrev cX5_fitNumber : ByteArray := prog_7_method_4_code
def yX5_fitNumber : MethodName := ⟨RX5, "fitNumber", "(II)I"⟩
abbrev cX6_tellSpot : ByteArray := prog_1_method_19_code
def yX6_tellSpot : MethodName := ⟨RX6, "tellSpot", "(II)I"⟩
abbrev cX6_place : ByteArray := prog_1_method_9_code
def yX6_place : MethodName := ⟨RX6, "place", "(III)I"⟩
abbrev cX6_isPlace : ByteArray := prog_1_method_17_code
def yX6_isPlace : MethodName := ⟨RX6, "isPlace", "(II)Z"⟩
abbrev cX6_cellAt : ByteArray := prog_1_method_18_code
def yX6_cellAt : MethodName := ⟨RX6, "cellAt", "(II)I"⟩
abbrev cX2_lay : ByteArray := prog_4_method_6_code
def yX2_lay : MethodName := ⟨RX2, "lay", "(I)V"⟩
abbrev cX5_addTile : ByteArray := prog_7_method_5_code
def yX5_addTile : MethodName := ⟨RX5, "addTile", "(II)V"⟩
abbrev cX3_found : ByteArray := prog_5_method_2_code
def yX3_found : MethodName := ⟨RX3, "found", "(III)V"⟩
abbrev cX5_joinSide : ByteArray := prog_7_method_8_code
def yX5_joinSide : MethodName := ⟨RX5, "joinSide", "(II)V"⟩
abbrev cX3_join : ByteArray := prog_5_method_4_code
def yX3_join : MethodName := ⟨RX3, "join", "(II)V"⟩
abbrev cJ9_min : ByteArray := prog_11_method_69_code
def yJ9_min : MethodName := ⟨RJ9, "min", "(II)I"⟩
abbrev cJ9_max : ByteArray := prog_11_method_65_code
def yJ9_max : MethodName := ⟨RJ9, "max", "(II)I"⟩
abbrev cX6_follow : ByteArray := prog_1_method_10_code
def yX6_follow : MethodName := ⟨RX6, "follow", "(I)I"⟩
abbrev cX2_mayPut : ByteArray := prog_4_method_7_code
def yX2_mayPut : MethodName := ⟨RX2, "mayPut", "(I)Z"⟩
abbrev cX5_kindOf : ByteArray := prog_7_method_11_code
def yX5_kindOf : MethodName := ⟨RX5, "kindOf", "(I)I"⟩
abbrev cX2_put : ByteArray := prog_4_method_8_code
def yX2_put : MethodName := ⟨RX2, "put", "(I)I"⟩
abbrev cX2_save : ByteArray := prog_4_method_13_code
def yX2_save : MethodName := ⟨RX2, "save", "()V"⟩
abbrev cX6_oneMan : ByteArray := prog_1_method_21_code
def yX6_oneMan : MethodName := ⟨RX6, "oneMan", "(I)I"⟩
abbrev cX3_setMen : ByteArray := prog_5_method_6_code
def yX3_setMen : MethodName := ⟨RX3, "setMen", "(II)V"⟩
abbrev cX2_settle : ByteArray := prog_4_method_9_code
def yX2_settle : MethodName := ⟨RX2, "settle", "()I"⟩
abbrev cX2_pay : ByteArray := prog_4_method_10_code
def yX2_pay : MethodName := ⟨RX2, "pay", "(I)I"⟩
abbrev cX5_isFinished : ByteArray := prog_7_method_13_code
def yX5_isFinished : MethodName := ⟨RX5, "isFinished", "(I)Z"⟩
abbrev cX5_finishedWorth : ByteArray := prog_7_method_15_code
def yX5_finishedWorth : MethodName := ⟨RX5, "finishedWorth", "(I)I"⟩
abbrev cJ6_bitCount : ByteArray := prog_10_method_49_code
def yJ6_bitCount : MethodName := ⟨RJ6, "bitCount", "(I)I"⟩
abbrev cX6_mostMen : ByteArray := prog_1_method_22_code
def yX6_mostMen : MethodName := ⟨RX6, "mostMen", "(I)I"⟩
abbrev cX6_menOf : ByteArray := prog_1_method_20_code
def yX6_menOf : MethodName := ⟨RX6, "menOf", "(II)I"⟩
abbrev cX5_cloisterAt : ByteArray := prog_7_method_14_code
def yX5_cloisterAt : MethodName := ⟨RX5, "cloisterAt", "(I)I"⟩
abbrev cX6_undo : ByteArray := prog_1_method_11_code
def yX6_undo : MethodName := ⟨RX6, "undo", "()Z"⟩
abbrev cX6_region : ByteArray := prog_1_method_12_code
def yX6_region : MethodName := ⟨RX6, "region", "(III)I"⟩
abbrev cX6_about : ByteArray := prog_1_method_13_code
def yX6_about : MethodName := ⟨RX6, "about", "(II)I"⟩
abbrev cX5_isRegion : ByteArray := prog_7_method_12_code
def yX5_isRegion : MethodName := ⟨RX5, "isRegion", "(I)Z"⟩
abbrev cX6_player : ByteArray := prog_1_method_14_code
def yX6_player : MethodName := ⟨RX6, "player", "(II)I"⟩
abbrev cX2_reckonFinals : ByteArray := prog_4_method_15_code
def yX2_reckonFinals : MethodName := ⟨RX2, "reckonFinals", "()V"⟩
abbrev cX5_finalWorth : ByteArray := prog_7_method_16_code
def yX5_finalWorth : MethodName := ⟨RX5, "finalWorth", "(I)I"⟩
abbrev cX5_finishedCitiesAt : ByteArray := prog_7_method_17_code
def yX5_finishedCitiesAt : MethodName := ⟨RX5, "finishedCitiesAt", "(I)I"⟩
abbrev cX5_newFinishedCities : ByteArray := prog_7_method_18_code
def yX5_newFinishedCities : MethodName := ⟨RX5, "newFinishedCities", "(II)I"⟩
abbrev cX2_addFinals : ByteArray := prog_4_method_16_code
def yX2_addFinals : MethodName := ⟨RX2, "addFinals", "(II)V"⟩
abbrev cX6_search : ByteArray := prog_1_method_15_code
def yX6_search : MethodName := ⟨RX6, "search", "(I)I"⟩
abbrev cX4_seek : ByteArray := prog_6_method_3_code
def yX4_seek : MethodName := ⟨RX4, "seek", "(I)Z"⟩
abbrev cX1_begin : ByteArray := prog_3_method_2_code
def yX1_begin : MethodName := ⟨RX1, "begin", "(I)V"⟩
abbrev cX4_makeNextLine : ByteArray := prog_6_method_6_code
def yX4_makeNextLine : MethodName := ⟨RX4, "makeNextLine", "(LRealmTiles$Level;)Z"⟩
abbrev cX4_lookBehindLine : ByteArray := prog_6_method_4_code
def yX4_lookBehindLine : MethodName := ⟨RX4, "lookBehindLine", "(I)I"⟩
abbrev cX1_weigh : ByteArray := prog_3_method_3_code
def yX1_weigh : MethodName := ⟨RX1, "weigh", "([II)V"⟩
abbrev cX4_endLine : ByteArray := prog_6_method_5_code
def yX4_endLine : MethodName := ⟨RX4, "endLine", "(I)V"⟩
abbrev cX6_best : ByteArray := prog_1_method_16_code
def yX6_best : MethodName := ⟨RX6, "best", "(I)I"⟩
abbrev cX7_init : ByteArray := prog_9_method_1_code
def yX7_init : MethodName := ⟨RX7, "<init>", "()V"⟩
abbrev cX7_type : ByteArray := prog_9_method_7_code
def yX7_type : MethodName := ⟨RX7, "type", "(JJJ)I"⟩
abbrev cX7_isType : ByteArray := prog_9_method_6_code
def yX7_isType : MethodName := ⟨RX7, "isType", "(JJJ)Z"⟩
abbrev cX7_isKind : ByteArray := prog_9_method_2_code
def yX7_isKind : MethodName := ⟨RX7, "isKind", "(I)Z"⟩
abbrev cX7_kindIn : ByteArray := prog_9_method_3_code
def yX7_kindIn : MethodName := ⟨RX7, "kindIn", "(JI)I"⟩
abbrev cX7_partIn : ByteArray := prog_9_method_4_code
def yX7_partIn : MethodName := ⟨RX7, "partIn", "(JI)I"⟩
abbrev cX7_isSide : ByteArray := prog_9_method_5_code
def yX7_isSide : MethodName := ⟨RX7, "isSide", "(JJI)Z"⟩
abbrev cX7_draw : ByteArray := prog_9_method_8_code
def yX7_draw : MethodName := ⟨RX7, "draw", "(I)I"⟩
abbrev cX7_start : ByteArray := prog_9_method_19_code
def yX7_start : MethodName := ⟨RX7, "start", "(I)Z"⟩
abbrev cX7_begin : ByteArray := prog_9_method_18_code
def yX7_begin : MethodName := ⟨RX7, "begin", "()V"⟩
abbrev cX7_drawNext : ByteArray := prog_9_method_17_code
def yX7_drawNext : MethodName := ⟨RX7, "drawNext", "()V"⟩
abbrev cX7_fitting : ByteArray := prog_9_method_16_code
def yX7_fitting : MethodName := ⟨RX7, "fitting", "(II)I"⟩
abbrev cX7_fitsAt : ByteArray := prog_9_method_15_code
def yX7_fitsAt : MethodName := ⟨RX7, "fitsAt", "(IIII)Z"⟩
abbrev cX7_isPlace : ByteArray := prog_9_method_9_code
def yX7_isPlace : MethodName := ⟨RX7, "isPlace", "(II)Z"⟩
abbrev cX7_tileAt : ByteArray := prog_9_method_10_code
def yX7_tileAt : MethodName := ⟨RX7, "tileAt", "(II)I"⟩
abbrev cX7_beside : ByteArray := prog_9_method_12_code
def yX7_beside : MethodName := ⟨RX7, "beside", "(III)I"⟩
abbrev cX7_opposite : ByteArray := prog_9_method_13_code
def yX7_opposite : MethodName := ⟨RX7, "opposite", "(I)I"⟩
abbrev cX7_kindAt : ByteArray := prog_9_method_14_code
def yX7_kindAt : MethodName := ⟨RX7, "kindAt", "(II)I"⟩
abbrev cX7_partAt : ByteArray := prog_9_method_11_code
def yX7_partAt : MethodName := ⟨RX7, "partAt", "(III)I"⟩
abbrev cX7_clear : ByteArray := prog_9_method_20_code
def yX7_clear : MethodName := ⟨RX7, "clear", "()V"⟩
abbrev cX7_drawn : ByteArray := prog_9_method_31_code
def yX7_drawn : MethodName := ⟨RX7, "drawn", "()I"⟩
abbrev cX7_game : ByteArray := prog_9_method_33_code
def yX7_game : MethodName := ⟨RX7, "game", "(I)I"⟩
abbrev cX7_fits : ByteArray := prog_9_method_34_code
def yX7_fits : MethodName := ⟨RX7, "fits", "(II)I"⟩
abbrev cX7_isToLay : ByteArray := prog_9_method_32_code
def yX7_isToLay : MethodName := ⟨RX7, "isToLay", "()Z"⟩
abbrev cX7_place : ByteArray := prog_9_method_40_code
def yX7_place : MethodName := ⟨RX7, "place", "(III)I"⟩
abbrev cX7_lay : ByteArray := prog_9_method_35_code
def yX7_lay : MethodName := ⟨RX7, "lay", "(III)V"⟩
abbrev cX7_note : ByteArray := prog_9_method_39_code
def yX7_note : MethodName := ⟨RX7, "note", "(IIII)V"⟩
abbrev cX7_follow : ByteArray := prog_9_method_41_code
def yX7_follow : MethodName := ⟨RX7, "follow", "(I)I"⟩
abbrev cX7_mayFollow : ByteArray := prog_9_method_36_code
def yX7_mayFollow : MethodName := ⟨RX7, "mayFollow", "(I)Z"⟩
abbrev cX7_kindOfPiece : ByteArray := prog_9_method_21_code
def yX7_kindOfPiece : MethodName := ⟨RX7, "kindOfPiece", "(I)I"⟩
abbrev cX7_giveLabels : ByteArray := prog_9_method_22_code
def yX7_giveLabels : MethodName := ⟨RX7, "giveLabels", "()V"⟩
abbrev cX7_hasFollowers : ByteArray := prog_9_method_29_code
def yX7_hasFollowers : MethodName := ⟨RX7, "hasFollowers", "(I)Z"⟩
abbrev cX7_put : ByteArray := prog_9_method_38_code
def yX7_put : MethodName := ⟨RX7, "put", "(I)I"⟩
abbrev cX7_score : ByteArray := prog_9_method_37_code
def yX7_score : MethodName := ⟨RX7, "score", "(I)I"⟩
abbrev cX7_isFinished : ByteArray := prog_9_method_27_code
def yX7_isFinished : MethodName := ⟨RX7, "isFinished", "(I)Z"⟩
abbrev cX7_around : ByteArray := prog_9_method_26_code
def yX7_around : MethodName := ⟨RX7, "around", "(I)I"⟩
abbrev cX7_openOf : ByteArray := prog_9_method_25_code
def yX7_openOf : MethodName := ⟨RX7, "openOf", "(I)I"⟩
abbrev cX7_tilesOf : ByteArray := prog_9_method_23_code
def yX7_tilesOf : MethodName := ⟨RX7, "tilesOf", "(I)I"⟩
abbrev cX7_shieldsOf : ByteArray := prog_9_method_24_code
def yX7_shieldsOf : MethodName := ⟨RX7, "shieldsOf", "(I)I"⟩
abbrev cX7_isFirst : ByteArray := prog_9_method_30_code
def yX7_isFirst : MethodName := ⟨RX7, "isFirst", "(II)Z"⟩
abbrev cX7_followersOf : ByteArray := prog_9_method_28_code
def yX7_followersOf : MethodName := ⟨RX7, "followersOf", "(II)I"⟩
abbrev cX7_undo : ByteArray := prog_9_method_42_code
def yX7_undo : MethodName := ⟨RX7, "undo", "()Z"⟩
abbrev cX7_region : ByteArray := prog_9_method_43_code
def yX7_region : MethodName := ⟨RX7, "region", "(III)I"⟩
abbrev cX7_about : ByteArray := prog_9_method_44_code
def yX7_about : MethodName := ⟨RX7, "about", "(II)I"⟩
abbrev cX7_player : ByteArray := prog_9_method_48_code
def yX7_player : MethodName := ⟨RX7, "player", "(II)I"⟩
abbrev cX7_count : ByteArray := prog_9_method_47_code
def yX7_count : MethodName := ⟨RX7, "count", "()V"⟩
abbrev cX7_finalWorth : ByteArray := prog_9_method_46_code
def yX7_finalWorth : MethodName := ⟨RX7, "finalWorth", "(I)I"⟩
abbrev cX7_citiesAt : ByteArray := prog_9_method_45_code
def yX7_citiesAt : MethodName := ⟨RX7, "citiesAt", "(I)I"⟩
abbrev cX7_search : ByteArray := prog_9_method_53_code
def yX7_search : MethodName := ⟨RX7, "search", "(I)I"⟩
abbrev cX7_copy : ByteArray := prog_9_method_49_code
def yX7_copy : MethodName := ⟨RX7, "copy", "(I)V"⟩
abbrev cX7_reply : ByteArray := prog_9_method_52_code
def yX7_reply : MethodName := ⟨RX7, "reply", "(I)V"⟩
abbrev cX7_ahead : ByteArray := prog_9_method_51_code
def yX7_ahead : MethodName := ⟨RX7, "ahead", "([II)I"⟩
abbrev cX7_restore : ByteArray := prog_9_method_50_code
def yX7_restore : MethodName := ⟨RX7, "restore", "(I)V"⟩
abbrev cX7_best : ByteArray := prog_9_method_54_code
def yX7_best : MethodName := ⟨RX7, "best", "(I)I"⟩
end
section
/-- the words that any method may be given, and the nest's links -/
def wA : List Cond := lw_tbl.filter goodWord
def rx_nest (w : Cond) : Bool := match w with
  | .fieldLinkNest .. => true
  | .methodLinkNest .. => true
  | _ => false
def wN : List Cond := lw_tbl.filter rx_nest
theorem wN_ok : ∀ w ∈ wN, rx_nest w = true := fun w h => (List.mem_filter.mp h).2
theorem wA_in {w : Cond} (h : w ∈ tables_1) (hg : goodWord w = true) : w ∈ wA := List.mem_filter.mpr ⟨List.mem_append_right _ h, hg⟩
theorem wN_in {w : Cond} (h : w ∈ tables_1) (hg : rx_nest w = true) : w ∈ wN := List.mem_filter.mpr ⟨List.mem_append_right _ h, hg⟩
theorem wt1 {w : Cond} (n : Nat) (h : tables_1_1[n]? = some w) : w ∈ tables_1 := List.mem_append_left _ (List.mem_of_getElem? h)
theorem wt2 {w : Cond} (n : Nat) (h : tables_1_2[n]? = some w) : w ∈ tables_1 := List.mem_append_right _ (List.mem_append_left _ (List.mem_of_getElem? h))
theorem wt3 {w : Cond} (n : Nat) (h : tables_1_3[n]? = some w) : w ∈ tables_1 := List.mem_append_right _ (List.mem_append_right _ (List.mem_append_left _ (List.mem_of_getElem? h)))
theorem wt4 {w : Cond} (n : Nat) (h : tables_1_4[n]? = some w) : w ∈ tables_1 := List.mem_append_right _ (List.mem_append_right _ (List.mem_append_right _ (List.mem_append_left _ (List.mem_of_getElem? h))))
theorem wt5 {w : Cond} (n : Nat) (h : tables_1_5[n]? = some w) : w ∈ tables_1 := List.mem_append_right _ (List.mem_append_right _ (List.mem_append_right _ (List.mem_append_right _ (List.mem_of_getElem? h))))
theorem wS_of {w : Cond} (n : Nat) (h : (k2_sels lw_privs)[n]? = some w) (hg : goodWord w = true) : w ∈ wA := List.mem_filter.mpr ⟨List.mem_append_left _ (List.mem_of_getElem? h), hg⟩
abbrev wX6_init : List Cond := Cond.code yX6_init cX6_init 1 none :: wA
abbrev wX0_init : List Cond := Cond.code yX0_init cX0_init 1 none :: wA
abbrev wX5_init : List Cond := Cond.code yX5_init cX5_init 3 none :: wA
abbrev wX3_init : List Cond := Cond.code yX3_init cX3_init 1 none :: wA
abbrev wJ7_fill : List Cond := Cond.code yJ7_fill cJ7_fill 4 none :: wA
abbrev wX2_init : List Cond := Cond.code yX2_init cX2_init 3 none :: wA
abbrev wX4_init : List Cond := Cond.code yX4_init cX4_init 3 none :: wA
abbrev wX1_init : List Cond := Cond.code yX1_init cX1_init 1 none :: wA
abbrev wX6_type : List Cond := Cond.code yX6_type cX6_type 7 (some .int) :: wA
abbrev wX0_isType : List Cond := Cond.code yX0_isType cX0_isType 6 (some .boolean) :: wA
abbrev wX0_kindsAreRight : List Cond := Cond.code yX0_kindsAreRight cX0_kindsAreRight 6 (some .boolean) :: wA
abbrev wX0_byteIn : List Cond := Cond.code yX0_byteIn cX0_byteIn 3 (some .int) :: wA
abbrev wX0_slotsAreRight : List Cond := Cond.code yX0_slotsAreRight cX0_slotsAreRight 7 (some .boolean) :: wA
abbrev wX0_partIn : List Cond := Cond.code yX0_partIn cX0_partIn 3 (some .int) :: wA
abbrev wX0_kindIn : List Cond := Cond.code yX0_kindIn cX0_kindIn 3 (some .int) :: wA
abbrev wX0_hasSlots : List Cond := Cond.code yX0_hasSlots cX0_hasSlots 1 (some .boolean) :: wA
abbrev wX0_sidesAreRight : List Cond := Cond.code yX0_sidesAreRight cX0_sidesAreRight 9 (some .boolean) :: wA
abbrev wX0_touchesAreRight : List Cond := Cond.code yX0_touchesAreRight cX0_touchesAreRight 7 (some .boolean) :: wA
abbrev wX0_addType : List Cond := Cond.code yX0_addType cX0_addType 10 (some .int) :: wA
abbrev wX6_draw : List Cond := Cond.code yX6_draw cX6_draw 2 (some .int) :: wA
abbrev wX0_addToList : List Cond := Cond.code yX0_addToList cX0_addToList 2 (some .int) :: wA
abbrev wX6_start : List Cond := Cond.code yX6_start cX6_start 2 (some .boolean) :: wA
abbrev wX4_forget : List Cond := Cond.code yX4_forget cX4_forget 1 none :: wA
abbrev wX2_begin : List Cond := Cond.code yX2_begin cX2_begin 2 none :: wA
abbrev wX2_end : List Cond := Cond.code yX2_end cX2_end 2 none :: wA
abbrev wX2_steps : List Cond := Cond.code yX2_steps cX2_steps 1 (some .int) :: wA
abbrev wX2_stepBack : List Cond := Cond.code yX2_stepBack cX2_stepBack 1 none :: wA
abbrev wX5_liftTile : List Cond := Cond.code yX5_liftTile cX5_liftTile 4 none :: wA
abbrev wX3_partTo : List Cond := Cond.code yX3_partTo cX3_partTo 5 none :: wA
abbrev wX5_openSide : List Cond := Cond.code yX5_openSide cX5_openSide 7 none :: wA
abbrev wX5_pieceAt : List Cond := Cond.code yX5_pieceAt cX5_pieceAt 4 (some .int) :: wA
abbrev wX5_slotBeside : List Cond := Cond.code yX5_slotBeside cX5_slotBeside 2 (some .int) :: wA
abbrev wX3_rootOf : List Cond := Cond.code yX3_rootOf cX3_rootOf 4 (some .int) :: wA
abbrev wX2_restore : List Cond := Cond.code yX2_restore cX2_restore 3 none :: wA
abbrev wX3_takeMenBackTo : List Cond := Cond.code yX3_takeMenBackTo cX3_takeMenBackTo 3 none :: wA
abbrev wX2_drawNext : List Cond := Cond.code yX2_drawNext cX2_drawNext 2 none :: wA
abbrev wX5_nextFit : List Cond := Cond.code yX5_nextFit cX5_nextFit 5 (some .int) :: wA
abbrev wX5_sidesMatch : List Cond := Cond.code yX5_sidesMatch cX5_sidesMatch 8 (some .boolean) :: wA
abbrev wX6_clear : List Cond := Cond.code yX6_clear cX6_clear 1 none :: wA
abbrev wX0_forget : List Cond := Cond.code yX0_forget cX0_forget 1 none :: wA
abbrev wX6_drawn : List Cond := Cond.code yX6_drawn cX6_drawn 1 (some .int) :: wA
abbrev wX6_game : List Cond := Cond.code yX6_game cX6_game 2 (some .int) :: wA
abbrev wX2_toMove : List Cond := Cond.code yX2_toMove cX2_toMove 1 (some .int) :: wA
abbrev wX6_fits : List Cond := Cond.code yX6_fits cX6_fits 3 (some .int) :: wA
abbrev wX5_fitNumber : List Cond := Cond.code yX5_fitNumber cX5_fitNumber 5 (some .int) :: wA
abbrev wX6_tellSpot : List Cond := Cond.code yX6_tellSpot cX6_tellSpot 2 (some .int) :: wA
abbrev wX6_place : List Cond := Cond.code yX6_place cX6_place 5 (some .int) :: wA
abbrev wX6_isPlace : List Cond := Cond.code yX6_isPlace cX6_isPlace 2 (some .boolean) :: wA
abbrev wX6_cellAt : List Cond := Cond.code yX6_cellAt cX6_cellAt 2 (some .int) :: wA
abbrev wX2_lay : List Cond := Cond.code yX2_lay cX2_lay 2 none :: wA
abbrev wX5_addTile : List Cond := Cond.code yX5_addTile cX5_addTile 7 none :: wA
abbrev wX3_found : List Cond := Cond.code yX3_found cX3_found 4 none :: wA
abbrev wX5_joinSide : List Cond := Cond.code yX5_joinSide cX5_joinSide 8 none :: wA
abbrev wX3_join : List Cond := Cond.code yX3_join cX3_join 5 none :: wA
abbrev wJ9_min : List Cond := Cond.code yJ9_min cJ9_min 2 (some .int) :: wA
abbrev wJ9_max : List Cond := Cond.code yJ9_max cJ9_max 2 (some .int) :: wA
abbrev wX6_follow : List Cond := Cond.code yX6_follow cX6_follow 2 (some .int) :: wA
abbrev wX2_mayPut : List Cond := Cond.code yX2_mayPut cX2_mayPut 3 (some .boolean) :: wA
abbrev wX5_kindOf : List Cond := Cond.code yX5_kindOf cX5_kindOf 2 (some .int) :: wA
abbrev wX2_put : List Cond := Cond.code yX2_put cX2_put 3 (some .int) :: wA
abbrev wX2_save : List Cond := Cond.code yX2_save cX2_save 3 none :: wA
abbrev wX6_oneMan : List Cond := Cond.code yX6_oneMan cX6_oneMan 1 (some .int) :: wA
abbrev wX3_setMen : List Cond := Cond.code yX3_setMen cX3_setMen 3 none :: wA
abbrev wX2_settle : List Cond := Cond.code yX2_settle cX2_settle 5 (some .int) :: wA
abbrev wX2_pay : List Cond := Cond.code yX2_pay cX2_pay 7 (some .int) :: wA
abbrev wX5_isFinished : List Cond := Cond.code yX5_isFinished cX5_isFinished 2 (some .boolean) :: wA
abbrev wX5_finishedWorth : List Cond := Cond.code yX5_finishedWorth cX5_finishedWorth 3 (some .int) :: wA
abbrev wJ6_bitCount : List Cond := Cond.code yJ6_bitCount cJ6_bitCount 1 (some .int) :: wA
abbrev wX6_mostMen : List Cond := Cond.code yX6_mostMen cX6_mostMen 1 (some .int) :: wA
abbrev wX6_menOf : List Cond := Cond.code yX6_menOf cX6_menOf 2 (some .int) :: wA
abbrev wX5_cloisterAt : List Cond := Cond.code yX5_cloisterAt cX5_cloisterAt 3 (some .int) :: wA
abbrev wX6_undo : List Cond := Cond.code yX6_undo cX6_undo 1 (some .boolean) :: wA
abbrev wX6_region : List Cond := Cond.code yX6_region cX6_region 5 (some .int) :: wA
abbrev wX6_about : List Cond := Cond.code yX6_about cX6_about 3 (some .int) :: wA
abbrev wX5_isRegion : List Cond := Cond.code yX5_isRegion cX5_isRegion 2 (some .boolean) :: wA
abbrev wX6_player : List Cond := Cond.code yX6_player cX6_player 3 (some .int) :: wA
abbrev wX2_reckonFinals : List Cond := Cond.code yX2_reckonFinals cX2_reckonFinals 3 none :: wA
abbrev wX5_finalWorth : List Cond := Cond.code yX5_finalWorth cX5_finalWorth 3 (some .int) :: wA
abbrev wX5_finishedCitiesAt : List Cond := Cond.code yX5_finishedCitiesAt cX5_finishedCitiesAt 6 (some .int) :: wA
abbrev wX5_newFinishedCities : List Cond := Cond.code yX5_newFinishedCities cX5_newFinishedCities 6 (some .int) :: wA
abbrev wX2_addFinals : List Cond := Cond.code yX2_addFinals cX2_addFinals 5 none :: wA
abbrev wX6_search : List Cond := Cond.code yX6_search cX6_search 2 (some .int) :: wA
abbrev wX4_seek : List Cond := Cond.code yX4_seek cX4_seek 6 (some .boolean) :: wA
abbrev wX1_begin : List Cond := Cond.code yX1_begin cX1_begin 2 none :: wA
abbrev wX4_makeNextLine : List Cond := Cond.code yX4_makeNextLine cX4_makeNextLine 3 (some .boolean) :: wA
abbrev wX4_lookBehindLine : List Cond := Cond.code yX4_lookBehindLine cX4_lookBehindLine 2 (some .int) :: wA
abbrev wX1_weigh : List Cond := Cond.code yX1_weigh cX1_weigh 5 none :: wA
abbrev wX4_endLine : List Cond := Cond.code yX4_endLine cX4_endLine 2 none :: wA
abbrev wX6_best : List Cond := Cond.code yX6_best cX6_best 2 (some .int) :: wA
abbrev wX7_init : List Cond := Cond.code yX7_init cX7_init 1 none :: wA
abbrev wX7_type : List Cond := Cond.code yX7_type cX7_type 8 (some .int) :: wA
abbrev wX7_isType : List Cond := Cond.code yX7_isType cX7_isType 13 (some .boolean) :: wA
abbrev wX7_isKind : List Cond := Cond.code yX7_isKind cX7_isKind 1 (some .boolean) :: wA
abbrev wX7_kindIn : List Cond := Cond.code yX7_kindIn cX7_kindIn 3 (some .int) :: wA
abbrev wX7_partIn : List Cond := Cond.code yX7_partIn cX7_partIn 3 (some .int) :: wA
abbrev wX7_isSide : List Cond := Cond.code yX7_isSide cX7_isSide 9 (some .boolean) :: wA
abbrev wX7_draw : List Cond := Cond.code yX7_draw cX7_draw 2 (some .int) :: wA
abbrev wX7_start : List Cond := Cond.code yX7_start cX7_start 2 (some .boolean) :: wA
abbrev wX7_begin : List Cond := Cond.code yX7_begin cX7_begin 2 none :: wA
abbrev wX7_drawNext : List Cond := Cond.code yX7_drawNext cX7_drawNext 2 none :: wA
abbrev wX7_fitting : List Cond := Cond.code yX7_fitting cX7_fitting 5 (some .int) :: wA
abbrev wX7_fitsAt : List Cond := Cond.code yX7_fitsAt cX7_fitsAt 9 (some .boolean) :: wA
abbrev wX7_isPlace : List Cond := Cond.code yX7_isPlace cX7_isPlace 2 (some .boolean) :: wA
abbrev wX7_tileAt : List Cond := Cond.code yX7_tileAt cX7_tileAt 3 (some .int) :: wA
abbrev wX7_beside : List Cond := Cond.code yX7_beside cX7_beside 5 (some .int) :: wA
abbrev wX7_opposite : List Cond := Cond.code yX7_opposite cX7_opposite 1 (some .int) :: wA
abbrev wX7_kindAt : List Cond := Cond.code yX7_kindAt cX7_kindAt 3 (some .int) :: wA
abbrev wX7_partAt : List Cond := Cond.code yX7_partAt cX7_partAt 4 (some .int) :: wA
abbrev wX7_clear : List Cond := Cond.code yX7_clear cX7_clear 1 none :: wA
abbrev wX7_drawn : List Cond := Cond.code yX7_drawn cX7_drawn 1 (some .int) :: wA
abbrev wX7_game : List Cond := Cond.code yX7_game cX7_game 2 (some .int) :: wA
abbrev wX7_fits : List Cond := Cond.code yX7_fits cX7_fits 4 (some .int) :: wA
abbrev wX7_isToLay : List Cond := Cond.code yX7_isToLay cX7_isToLay 1 (some .boolean) :: wA
abbrev wX7_place : List Cond := Cond.code yX7_place cX7_place 4 (some .int) :: wA
abbrev wX7_lay : List Cond := Cond.code yX7_lay cX7_lay 4 none :: wA
abbrev wX7_note : List Cond := Cond.code yX7_note cX7_note 5 none :: wA
abbrev wX7_follow : List Cond := Cond.code yX7_follow cX7_follow 2 (some .int) :: wA
abbrev wX7_mayFollow : List Cond := Cond.code yX7_mayFollow cX7_mayFollow 3 (some .boolean) :: wA
abbrev wX7_kindOfPiece : List Cond := Cond.code yX7_kindOfPiece cX7_kindOfPiece 2 (some .int) :: wA
abbrev wX7_giveLabels : List Cond := Cond.code yX7_giveLabels cX7_giveLabels 7 none :: wA
abbrev wX7_hasFollowers : List Cond := Cond.code yX7_hasFollowers cX7_hasFollowers 4 (some .boolean) :: wA
abbrev wX7_put : List Cond := Cond.code yX7_put cX7_put 7 (some .int) :: wA
abbrev wX7_score : List Cond := Cond.code yX7_score cX7_score 6 (some .int) :: wA
abbrev wX7_isFinished : List Cond := Cond.code yX7_isFinished cX7_isFinished 3 (some .boolean) :: wA
abbrev wX7_around : List Cond := Cond.code yX7_around cX7_around 4 (some .int) :: wA
abbrev wX7_openOf : List Cond := Cond.code yX7_openOf cX7_openOf 6 (some .int) :: wA
abbrev wX7_tilesOf : List Cond := Cond.code yX7_tilesOf cX7_tilesOf 6 (some .int) :: wA
abbrev wX7_shieldsOf : List Cond := Cond.code yX7_shieldsOf cX7_shieldsOf 4 (some .int) :: wA
abbrev wX7_isFirst : List Cond := Cond.code yX7_isFirst cX7_isFirst 6 (some .boolean) :: wA
abbrev wX7_followersOf : List Cond := Cond.code yX7_followersOf cX7_followersOf 5 (some .int) :: wA
abbrev wX7_undo : List Cond := Cond.code yX7_undo cX7_undo 3 (some .boolean) :: wA
abbrev wX7_region : List Cond := Cond.code yX7_region cX7_region 5 (some .int) :: wA
abbrev wX7_about : List Cond := Cond.code yX7_about cX7_about 3 (some .int) :: wA
abbrev wX7_player : List Cond := Cond.code yX7_player cX7_player 3 (some .int) :: wA
abbrev wX7_count : List Cond := Cond.code yX7_count cX7_count 4 none :: wA
abbrev wX7_finalWorth : List Cond := Cond.code yX7_finalWorth cX7_finalWorth 3 (some .int) :: wA
abbrev wX7_citiesAt : List Cond := Cond.code yX7_citiesAt cX7_citiesAt 7 (some .int) :: wA
abbrev wX7_search : List Cond := Cond.code yX7_search cX7_search 8 (some .int) :: wA
abbrev wX7_copy : List Cond := Cond.code yX7_copy cX7_copy 4 none :: wA
abbrev wX7_reply : List Cond := Cond.code yX7_reply cX7_reply 9 none :: wA
abbrev wX7_ahead : List Cond := Cond.code yX7_ahead cX7_ahead 5 (some .int) :: wA
abbrev wX7_restore : List Cond := Cond.code yX7_restore cX7_restore 4 none :: wA
abbrev wX7_best : List Cond := Cond.code yX7_best cX7_best 2 (some .int) :: wA
theorem tw_1 : Cond.initialized "RealmTiles" ∈ wA := wA_in (wt1 1 rfl) rfl
theorem tw_2 : Cond.initialized "RealmTiles$Kit" ∈ wA := wA_in (wt1 2 rfl) rfl
theorem tw_3 : Cond.initialized "RealmTiles$Table" ∈ wA := wA_in (wt1 3 rfl) rfl
theorem tw_4 : Cond.initialized "RealmTiles$Regions" ∈ wA := wA_in (wt1 4 rfl) rfl
theorem tw_5 : Cond.initialized "java/util/Arrays" ∈ wA := wA_in (wt1 5 rfl) rfl
theorem tw_6 : Cond.initialized "RealmTiles$Match" ∈ wA := wA_in (wt1 6 rfl) rfl
theorem tw_7 : Cond.initialized "RealmTiles$Seeker" ∈ wA := wA_in (wt1 7 rfl) rfl
theorem tw_8 : Cond.initialized "RealmTiles$Level" ∈ wA := wA_in (wt1 8 rfl) rfl
theorem tw_9 : Cond.initialized "RealmTilesModel" ∈ wA := wA_in (wt1 9 rfl) rfl
theorem tw_10 : Cond.initialized "java/lang/Math" ∈ wA := wA_in (wt1 10 rfl) rfl
theorem tw_11 : Cond.initialized "java/lang/Integer" ∈ wA := wA_in (wt1 11 rfl) rfl
theorem tw_12 : Cond.initialized "java/lang/System" ∈ wA := wA_in (wt1 12 rfl) rfl
theorem tw_27 : Cond.fieldLink "RealmTiles$Kit" 9 "RealmTiles$Kit" "partAt" "[I" ∈ wA := wA_in (wt1 27 rfl) rfl
theorem tw_29 : Cond.fieldLink "RealmTiles$Kit" 15 "RealmTiles$Kit" "sideKind" "[I" ∈ wA := wA_in (wt1 29 rfl) rfl
theorem tw_31 : Cond.fieldLink "RealmTiles$Kit" 18 "RealmTiles$Kit" "kind" "[I" ∈ wA := wA_in (wt1 31 rfl) rfl
theorem tw_33 : Cond.fieldLink "RealmTiles$Kit" 21 "RealmTiles$Kit" "shields" "[I" ∈ wA := wA_in (wt1 33 rfl) rfl
theorem tw_35 : Cond.fieldLink "RealmTiles$Kit" 24 "RealmTiles$Kit" "touched" "[I" ∈ wA := wA_in (wt1 35 rfl) rfl
theorem tw_37 : Cond.fieldLink "RealmTiles$Kit" 27 "RealmTiles$Kit" "slotCount" "[I" ∈ wA := wA_in (wt1 37 rfl) rfl
theorem tw_39 : Cond.fieldLink "RealmTiles$Kit" 30 "RealmTiles$Kit" "cloister" "[I" ∈ wA := wA_in (wt1 39 rfl) rfl
theorem tw_41 : Cond.fieldLink "RealmTiles$Kit" 33 "RealmTiles$Kit" "list" "[I" ∈ wA := wA_in (wt1 41 rfl) rfl
theorem tw_44 : Cond.fieldLink "RealmTiles$Kit" 64 "RealmTiles$Kit" "types" "I" ∈ wA := wA_in (wt1 44 rfl) rfl
theorem tw_47 : Cond.fieldLink "RealmTiles$Kit" 68 "RealmTiles$Kit" "listed" "I" ∈ wA := wA_in (wt1 47 rfl) rfl
theorem tw_48 : Cond.laysFinal "RealmTiles$Kit" "RealmTiles$Kit" "partAt" "[I" ∈ wA := wA_in (wt1 48 rfl) rfl
theorem tw_50 : Cond.laysFinal "RealmTiles$Kit" "RealmTiles$Kit" "sideKind" "[I" ∈ wA := wA_in (wt1 50 rfl) rfl
theorem tw_52 : Cond.laysFinal "RealmTiles$Kit" "RealmTiles$Kit" "kind" "[I" ∈ wA := wA_in (wt1 52 rfl) rfl
theorem tw_54 : Cond.laysFinal "RealmTiles$Kit" "RealmTiles$Kit" "shields" "[I" ∈ wA := wA_in (wt1 54 rfl) rfl
theorem tw_56 : Cond.laysFinal "RealmTiles$Kit" "RealmTiles$Kit" "touched" "[I" ∈ wA := wA_in (wt1 56 rfl) rfl
theorem tw_58 : Cond.laysFinal "RealmTiles$Kit" "RealmTiles$Kit" "slotCount" "[I" ∈ wA := wA_in (wt1 58 rfl) rfl
theorem tw_60 : Cond.laysFinal "RealmTiles$Kit" "RealmTiles$Kit" "cloister" "[I" ∈ wA := wA_in (wt1 60 rfl) rfl
theorem tw_62 : Cond.laysFinal "RealmTiles$Kit" "RealmTiles$Kit" "list" "[I" ∈ wA := wA_in (wt1 62 rfl) rfl
theorem tw_64 : Cond.lays "RealmTiles$Kit" "RealmTiles$Kit" "types" "I" ∈ wA := wA_in (wt1 64 rfl) rfl
theorem tw_66 : Cond.lays "RealmTiles$Kit" "RealmTiles$Kit" "listed" "I" ∈ wA := wA_in (wt1 66 rfl) rfl
theorem tw_82 : Cond.fieldLink "RealmTiles$Regions" 9 "RealmTiles$Regions" "up" "[I" ∈ wA := wA_in (wt1 82 rfl) rfl
theorem tw_85 : Cond.fieldLink "RealmTiles$Regions" 15 "RealmTiles$Regions" "tileBits" "[I" ∈ wA := wA_in (wt1 85 rfl) rfl
theorem tw_88 : Cond.fieldLink "RealmTiles$Regions" 18 "RealmTiles$Regions" "shields" "[I" ∈ wA := wA_in (wt1 88 rfl) rfl
theorem tw_91 : Cond.fieldLink "RealmTiles$Regions" 21 "RealmTiles$Regions" "open" "[I" ∈ wA := wA_in (wt1 91 rfl) rfl
theorem tw_94 : Cond.fieldLink "RealmTiles$Regions" 24 "RealmTiles$Regions" "men" "[I" ∈ wA := wA_in (wt1 94 rfl) rfl
theorem tw_97 : Cond.fieldLink "RealmTiles$Regions" 27 "RealmTiles$Regions" "joined" "[I" ∈ wA := wA_in (wt1 97 rfl) rfl
theorem tw_98 : Cond.fieldLink "RealmTiles$Regions" 30 "RealmTiles$Regions" "tileBitsBefore" "[I" ∈ wA := wA_in (wt1 98 rfl) rfl
theorem tw_99 : Cond.fieldLink "RealmTiles$Regions" 48 "RealmTiles$Regions" "joins" "I" ∈ wA := wA_in (wt1 99 rfl) rfl
theorem tw_101 : Cond.fieldLink "RealmTiles$Regions" 33 "RealmTiles$Regions" "changed" "[I" ∈ wA := wA_in (wt1 101 rfl) rfl
theorem tw_102 : Cond.fieldLink "RealmTiles$Regions" 36 "RealmTiles$Regions" "menBefore" "[I" ∈ wA := wA_in (wt1 102 rfl) rfl
theorem tw_103 : Cond.fieldLink "RealmTiles$Regions" 52 "RealmTiles$Regions" "changes" "I" ∈ wA := wA_in (wt1 103 rfl) rfl
theorem tw_105 : Cond.laysFinal "RealmTiles$Regions" "RealmTiles$Regions" "up" "[I" ∈ wA := wA_in (wt1 105 rfl) rfl
theorem tw_107 : Cond.laysFinal "RealmTiles$Regions" "RealmTiles$Regions" "tileBits" "[I" ∈ wA := wA_in (wt1 107 rfl) rfl
theorem tw_109 : Cond.laysFinal "RealmTiles$Regions" "RealmTiles$Regions" "shields" "[I" ∈ wA := wA_in (wt1 109 rfl) rfl
theorem tw_111 : Cond.laysFinal "RealmTiles$Regions" "RealmTiles$Regions" "open" "[I" ∈ wA := wA_in (wt1 111 rfl) rfl
theorem tw_113 : Cond.laysFinal "RealmTiles$Regions" "RealmTiles$Regions" "men" "[I" ∈ wA := wA_in (wt1 113 rfl) rfl
theorem tw_115 : Cond.laysFinal "RealmTiles$Regions" "RealmTiles$Regions" "joined" "[I" ∈ wA := wA_in (wt1 115 rfl) rfl
theorem tw_117 : Cond.laysFinal "RealmTiles$Regions" "RealmTiles$Regions" "tileBitsBefore" "[I" ∈ wA := wA_in (wt1 117 rfl) rfl
theorem tw_119 : Cond.lays "RealmTiles$Regions" "RealmTiles$Regions" "joins" "I" ∈ wA := wA_in (wt1 119 rfl) rfl
theorem tw_121 : Cond.laysFinal "RealmTiles$Regions" "RealmTiles$Regions" "changed" "[I" ∈ wA := wA_in (wt1 121 rfl) rfl
theorem tw_123 : Cond.laysFinal "RealmTiles$Regions" "RealmTiles$Regions" "menBefore" "[I" ∈ wA := wA_in (wt1 123 rfl) rfl
theorem tw_125 : Cond.lays "RealmTiles$Regions" "RealmTiles$Regions" "changes" "I" ∈ wA := wA_in (wt1 125 rfl) rfl
theorem tw_129 : Cond.static yJ7_fill ∈ wA := wA_in (wt1 129 rfl) rfl
theorem tw_130 : Cond.code yJ7_fill prog_13_method_103_code 4 none ∈ wA := wA_in (wt1 130 rfl) rfl
theorem tw_131 : Cond.fieldLink "RealmTiles$Table" 36 "RealmTiles$Table" "kit" "LRealmTiles$Kit;" ∈ wA := wA_in (wt1 131 rfl) rfl
theorem tw_132 : Cond.fieldLink "RealmTiles$Table" 43 "RealmTiles$Table" "regions" "LRealmTiles$Regions;" ∈ wA := wA_in (wt1 132 rfl) rfl
theorem tw_135 : Cond.fieldLink "RealmTiles$Table" 9 "RealmTiles$Table" "at" "[I" ∈ wA := wA_in (wt1 135 rfl) rfl
theorem tw_137 : Cond.fieldLink "RealmTiles$Table" 15 "RealmTiles$Table" "near" "[I" ∈ wA := wA_in (wt1 137 rfl) rfl
theorem tw_138 : Cond.fieldLink "RealmTiles$Table" 18 "RealmTiles$Table" "around" "[I" ∈ wA := wA_in (wt1 138 rfl) rfl
theorem tw_139 : Cond.fieldLink "RealmTiles$Table" 21 "RealmTiles$Table" "cellOf" "[I" ∈ wA := wA_in (wt1 139 rfl) rfl
theorem tw_141 : Cond.fieldLink "RealmTiles$Table" 24 "RealmTiles$Table" "typeOf" "[I" ∈ wA := wA_in (wt1 141 rfl) rfl
theorem tw_143 : Cond.fieldLink "RealmTiles$Table" 27 "RealmTiles$Table" "turnOf" "[I" ∈ wA := wA_in (wt1 143 rfl) rfl
theorem tw_144 : Cond.fieldLink "RealmTiles$Table" 30 "RealmTiles$Table" "joinsBefore" "[I" ∈ wA := wA_in (wt1 144 rfl) rfl
theorem tw_145 : Cond.fieldLink "RealmTiles$Table" 69 "RealmTiles$Table" "tiles" "I" ∈ wA := wA_in (wt1 145 rfl) rfl
theorem tw_148 : Cond.fieldLink "RealmTiles$Table" 33 "RealmTiles$Table" "countedIn" "[I" ∈ wA := wA_in (wt1 148 rfl) rfl
theorem tw_149 : Cond.fieldLink "RealmTiles$Table" 143 "RealmTiles$Table" "count" "I" ∈ wA := wA_in (wt1 149 rfl) rfl
theorem tw_150 : Cond.laysFinal "RealmTiles$Table" "RealmTiles$Table" "kit" "LRealmTiles$Kit;" ∈ wA := wA_in (wt1 150 rfl) rfl
theorem tw_152 : Cond.laysFinal "RealmTiles$Table" "RealmTiles$Table" "regions" "LRealmTiles$Regions;" ∈ wA := wA_in (wt1 152 rfl) rfl
theorem tw_154 : Cond.laysFinal "RealmTiles$Table" "RealmTiles$Table" "at" "[I" ∈ wA := wA_in (wt1 154 rfl) rfl
theorem tw_156 : Cond.laysFinal "RealmTiles$Table" "RealmTiles$Table" "near" "[I" ∈ wA := wA_in (wt1 156 rfl) rfl
theorem tw_158 : Cond.laysFinal "RealmTiles$Table" "RealmTiles$Table" "around" "[I" ∈ wA := wA_in (wt1 158 rfl) rfl
theorem tw_160 : Cond.laysFinal "RealmTiles$Table" "RealmTiles$Table" "cellOf" "[I" ∈ wA := wA_in (wt1 160 rfl) rfl
theorem tw_162 : Cond.laysFinal "RealmTiles$Table" "RealmTiles$Table" "typeOf" "[I" ∈ wA := wA_in (wt1 162 rfl) rfl
theorem tw_164 : Cond.laysFinal "RealmTiles$Table" "RealmTiles$Table" "turnOf" "[I" ∈ wA := wA_in (wt1 164 rfl) rfl
theorem tw_166 : Cond.laysFinal "RealmTiles$Table" "RealmTiles$Table" "joinsBefore" "[I" ∈ wA := wA_in (wt1 166 rfl) rfl
theorem tw_168 : Cond.lays "RealmTiles$Table" "RealmTiles$Table" "tiles" "I" ∈ wA := wA_in (wt1 168 rfl) rfl
theorem tw_170 : Cond.laysFinal "RealmTiles$Table" "RealmTiles$Table" "countedIn" "[I" ∈ wA := wA_in (wt1 170 rfl) rfl
theorem tw_172 : Cond.lays "RealmTiles$Table" "RealmTiles$Table" "count" "I" ∈ wA := wA_in (wt1 172 rfl) rfl
theorem tw_181 : Cond.fieldLink "RealmTiles$Match" 28 "RealmTiles$Match" "kit" "LRealmTiles$Kit;" ∈ wA := wA_in (wt1 181 rfl) rfl
theorem tw_182 : Cond.fieldLink "RealmTiles$Match" 32 "RealmTiles$Match" "table" "LRealmTiles$Table;" ∈ wA := wA_in (wt1 182 rfl) rfl
theorem tw_183 : Cond.fieldLink "RealmTiles$Match" 39 "RealmTiles$Match" "on" "Z" ∈ wA := wA_in (wt1 183 rfl) rfl
theorem tw_185 : Cond.fieldLink "RealmTiles$Match" 71 "RealmTiles$Match" "laid" "Z" ∈ wA := wA_in (wt1 185 rfl) rfl
theorem tw_187 : Cond.fieldLink "RealmTiles$Match" 43 "RealmTiles$Match" "players" "I" ∈ wA := wA_in (wt1 187 rfl) rfl
theorem tw_191 : Cond.fieldLink "RealmTiles$Match" 56 "RealmTiles$Match" "mover" "I" ∈ wA := wA_in (wt1 191 rfl) rfl
theorem tw_192 : Cond.fieldLink "RealmTiles$Match" 9 "RealmTiles$Match" "inHand" "I" ∈ wA := wA_in (wt1 192 rfl) rfl
theorem tw_195 : Cond.fieldLink "RealmTiles$Match" 59 "RealmTiles$Match" "next" "I" ∈ wA := wA_in (wt1 195 rfl) rfl
theorem tw_197 : Cond.fieldLink "RealmTiles$Match" 62 "RealmTiles$Match" "aside" "I" ∈ wA := wA_in (wt1 197 rfl) rfl
theorem tw_199 : Cond.fieldLink "RealmTiles$Match" 15 "RealmTiles$Match" "points" "[I" ∈ wA := wA_in (wt1 199 rfl) rfl
theorem tw_201 : Cond.fieldLink "RealmTiles$Match" 19 "RealmTiles$Match" "left" "[I" ∈ wA := wA_in (wt1 201 rfl) rfl
theorem tw_203 : Cond.fieldLink "RealmTiles$Match" 22 "RealmTiles$Match" "finals" "[I" ∈ wA := wA_in (wt1 203 rfl) rfl
theorem tw_206 : Cond.fieldLink "RealmTiles$Match" 25 "RealmTiles$Match" "saved" "[I" ∈ wA := wA_in (wt1 206 rfl) rfl
theorem tw_207 : Cond.laysFinal "RealmTiles$Match" "RealmTiles$Match" "kit" "LRealmTiles$Kit;" ∈ wA := wA_in (wt1 207 rfl) rfl
theorem tw_209 : Cond.laysFinal "RealmTiles$Match" "RealmTiles$Match" "table" "LRealmTiles$Table;" ∈ wA := wA_in (wt1 209 rfl) rfl
theorem tw_211 : Cond.lays "RealmTiles$Match" "RealmTiles$Match" "on" "Z" ∈ wA := wA_in (wt1 211 rfl) rfl
theorem tw_213 : Cond.lays "RealmTiles$Match" "RealmTiles$Match" "laid" "Z" ∈ wA := wA_in (wt1 213 rfl) rfl
theorem tw_215 : Cond.lays "RealmTiles$Match" "RealmTiles$Match" "players" "I" ∈ wA := wA_in (wt1 215 rfl) rfl
theorem tw_217 : Cond.lays "RealmTiles$Match" "RealmTiles$Match" "mover" "I" ∈ wA := wA_in (wt1 217 rfl) rfl
theorem tw_219 : Cond.lays "RealmTiles$Match" "RealmTiles$Match" "inHand" "I" ∈ wA := wA_in (wt1 219 rfl) rfl
theorem tw_221 : Cond.lays "RealmTiles$Match" "RealmTiles$Match" "next" "I" ∈ wA := wA_in (wt1 221 rfl) rfl
theorem tw_223 : Cond.lays "RealmTiles$Match" "RealmTiles$Match" "aside" "I" ∈ wA := wA_in (wt1 223 rfl) rfl
theorem tw_225 : Cond.laysFinal "RealmTiles$Match" "RealmTiles$Match" "points" "[I" ∈ wA := wA_in (wt1 225 rfl) rfl
theorem tw_227 : Cond.laysFinal "RealmTiles$Match" "RealmTiles$Match" "left" "[I" ∈ wA := wA_in (wt1 227 rfl) rfl
theorem tw_229 : Cond.laysFinal "RealmTiles$Match" "RealmTiles$Match" "finals" "[I" ∈ wA := wA_in (wt1 229 rfl) rfl
theorem tw_231 : Cond.laysFinal "RealmTiles$Match" "RealmTiles$Match" "saved" "[I" ∈ wA := wA_in (wt1 231 rfl) rfl
theorem tw_247 : Cond.fieldLink "RealmTiles$Level" 15 "RealmTiles$Level" "mover" "I" ∈ wA := wA_in (wt2 7 rfl) rfl
theorem tw_248 : Cond.fieldLink "RealmTiles$Level" 19 "RealmTiles$Level" "spot" "I" ∈ wA := wA_in (wt2 8 rfl) rfl
theorem tw_250 : Cond.fieldLink "RealmTiles$Level" 41 "RealmTiles$Level" "part" "I" ∈ wA := wA_in (wt2 10 rfl) rfl
theorem tw_252 : Cond.fieldLink "RealmTiles$Level" 22 "RealmTiles$Level" "laid" "Z" ∈ wA := wA_in (wt2 12 rfl) rfl
theorem tw_254 : Cond.fieldLink "RealmTiles$Level" 26 "RealmTiles$Level" "any" "Z" ∈ wA := wA_in (wt2 14 rfl) rfl
theorem tw_255 : Cond.fieldLink "RealmTiles$Level" 35 "RealmTiles$Level" "value" "I" ∈ wA := wA_in (wt2 15 rfl) rfl
theorem tw_257 : Cond.fieldLink "RealmTiles$Level" 38 "RealmTiles$Level" "bestSpot" "I" ∈ wA := wA_in (wt2 17 rfl) rfl
theorem tw_259 : Cond.fieldLink "RealmTiles$Level" 44 "RealmTiles$Level" "bestPart" "I" ∈ wA := wA_in (wt2 19 rfl) rfl
theorem tw_261 : Cond.fieldLink "RealmTiles$Level" 9 "RealmTiles$Level" "finals" "[I" ∈ wA := wA_in (wt2 21 rfl) rfl
theorem tw_263 : Cond.lays "RealmTiles$Level" "RealmTiles$Level" "mover" "I" ∈ wA := wA_in (wt2 23 rfl) rfl
theorem tw_265 : Cond.lays "RealmTiles$Level" "RealmTiles$Level" "spot" "I" ∈ wA := wA_in (wt2 25 rfl) rfl
theorem tw_267 : Cond.lays "RealmTiles$Level" "RealmTiles$Level" "part" "I" ∈ wA := wA_in (wt2 27 rfl) rfl
theorem tw_269 : Cond.lays "RealmTiles$Level" "RealmTiles$Level" "laid" "Z" ∈ wA := wA_in (wt2 29 rfl) rfl
theorem tw_271 : Cond.lays "RealmTiles$Level" "RealmTiles$Level" "any" "Z" ∈ wA := wA_in (wt2 31 rfl) rfl
theorem tw_273 : Cond.lays "RealmTiles$Level" "RealmTiles$Level" "value" "I" ∈ wA := wA_in (wt2 33 rfl) rfl
theorem tw_275 : Cond.lays "RealmTiles$Level" "RealmTiles$Level" "bestSpot" "I" ∈ wA := wA_in (wt2 35 rfl) rfl
theorem tw_277 : Cond.lays "RealmTiles$Level" "RealmTiles$Level" "bestPart" "I" ∈ wA := wA_in (wt2 37 rfl) rfl
theorem tw_279 : Cond.laysFinal "RealmTiles$Level" "RealmTiles$Level" "finals" "[I" ∈ wA := wA_in (wt2 39 rfl) rfl
theorem tw_282 : Cond.fieldLink "RealmTiles$Seeker" 22 "RealmTiles$Seeker" "match" "LRealmTiles$Match;" ∈ wA := wA_in (wt2 42 rfl) rfl
theorem tw_283 : Cond.fieldLink "RealmTiles$Seeker" 26 "RealmTiles$Seeker" "table" "LRealmTiles$Table;" ∈ wA := wA_in (wt2 43 rfl) rfl
theorem tw_284 : Cond.fieldLink "RealmTiles$Seeker" 12 "RealmTiles$Seeker" "levels" "[LRealmTiles$Level;" ∈ wA := wA_in (wt2 44 rfl) rfl
theorem tw_285 : Cond.fieldLink "RealmTiles$Seeker" 18 "RealmTiles$Seeker" "spot" "I" ∈ wA := wA_in (wt2 45 rfl) rfl
theorem tw_287 : Cond.fieldLink "RealmTiles$Seeker" 63 "RealmTiles$Seeker" "part" "I" ∈ wA := wA_in (wt2 47 rfl) rfl
theorem tw_289 : Cond.fieldLink "RealmTiles$Seeker" 69 "RealmTiles$Seeker" "value" "I" ∈ wA := wA_in (wt2 49 rfl) rfl
theorem tw_291 : Cond.laysFinal "RealmTiles$Seeker" "RealmTiles$Seeker" "match" "LRealmTiles$Match;" ∈ wA := wA_in (wt2 51 rfl) rfl
theorem tw_293 : Cond.laysFinal "RealmTiles$Seeker" "RealmTiles$Seeker" "table" "LRealmTiles$Table;" ∈ wA := wA_in (wt2 53 rfl) rfl
theorem tw_295 : Cond.laysFinal "RealmTiles$Seeker" "RealmTiles$Seeker" "levels" "[LRealmTiles$Level;" ∈ wA := wA_in (wt2 55 rfl) rfl
theorem tw_297 : Cond.lays "RealmTiles$Seeker" "RealmTiles$Seeker" "spot" "I" ∈ wA := wA_in (wt2 57 rfl) rfl
theorem tw_299 : Cond.lays "RealmTiles$Seeker" "RealmTiles$Seeker" "part" "I" ∈ wA := wA_in (wt2 59 rfl) rfl
theorem tw_301 : Cond.lays "RealmTiles$Seeker" "RealmTiles$Seeker" "value" "I" ∈ wA := wA_in (wt2 61 rfl) rfl
theorem tw_304 : Cond.fieldLink "RealmTiles" 12 "RealmTiles" "kit" "LRealmTiles$Kit;" ∈ wA := wA_in (wt2 64 rfl) rfl
theorem tw_305 : Cond.fieldLink "RealmTiles" 21 "RealmTiles" "table" "LRealmTiles$Table;" ∈ wA := wA_in (wt2 65 rfl) rfl
theorem tw_306 : Cond.fieldLink "RealmTiles" 30 "RealmTiles" "match" "LRealmTiles$Match;" ∈ wA := wA_in (wt2 66 rfl) rfl
theorem tw_307 : Cond.fieldLink "RealmTiles" 39 "RealmTiles" "seeker" "LRealmTiles$Seeker;" ∈ wA := wA_in (wt2 67 rfl) rfl
theorem tw_308 : Cond.laysFinal "RealmTiles" "RealmTiles" "kit" "LRealmTiles$Kit;" ∈ wA := wA_in (wt2 68 rfl) rfl
theorem tw_310 : Cond.laysFinal "RealmTiles" "RealmTiles" "table" "LRealmTiles$Table;" ∈ wA := wA_in (wt2 70 rfl) rfl
theorem tw_312 : Cond.laysFinal "RealmTiles" "RealmTiles" "match" "LRealmTiles$Match;" ∈ wA := wA_in (wt2 72 rfl) rfl
theorem tw_314 : Cond.laysFinal "RealmTiles" "RealmTiles" "seeker" "LRealmTiles$Seeker;" ∈ wA := wA_in (wt2 74 rfl) rfl
theorem tw_321 : Cond.methodLink "RealmTiles" 43 yX0_isType ∈ wA := wA_in (wt2 81 rfl) rfl
theorem tw_322 : Cond.static yX0_isType ∈ wA := wA_in (wt2 82 rfl) rfl
theorem tw_323 : Cond.code yX0_isType prog_2_method_2_code 6 (some .boolean) ∈ wA := wA_in (wt2 83 rfl) rfl
theorem tw_324 : Cond.methodLink "RealmTiles$Kit" 36 yX0_kindsAreRight ∈ wA := wA_in (wt2 84 rfl) rfl
theorem tw_325 : Cond.static yX0_kindsAreRight ∈ wA := wA_in (wt2 85 rfl) rfl
theorem tw_326 : Cond.code yX0_kindsAreRight prog_2_method_3_code 6 (some .boolean) ∈ wA := wA_in (wt2 86 rfl) rfl
theorem tw_327 : Cond.methodLink "RealmTiles$Kit" 50 yX0_byteIn ∈ wA := wA_in (wt2 87 rfl) rfl
theorem tw_328 : Cond.static yX0_byteIn ∈ wA := wA_in (wt2 88 rfl) rfl
theorem tw_329 : Cond.code yX0_byteIn prog_2_method_9_code 3 (some .int) ∈ wA := wA_in (wt2 89 rfl) rfl
theorem tw_330 : Cond.methodLink "RealmTiles$Kit" 40 yX0_slotsAreRight ∈ wA := wA_in (wt2 90 rfl) rfl
theorem tw_331 : Cond.static yX0_slotsAreRight ∈ wA := wA_in (wt2 91 rfl) rfl
theorem tw_332 : Cond.code yX0_slotsAreRight prog_2_method_4_code 7 (some .boolean) ∈ wA := wA_in (wt2 92 rfl) rfl
theorem tw_333 : Cond.methodLink "RealmTiles$Kit" 54 yX0_partIn ∈ wA := wA_in (wt2 93 rfl) rfl
theorem tw_334 : Cond.static yX0_partIn ∈ wA := wA_in (wt2 94 rfl) rfl
theorem tw_335 : Cond.code yX0_partIn prog_2_method_8_code 3 (some .int) ∈ wA := wA_in (wt2 95 rfl) rfl
theorem tw_336 : Cond.methodLink "RealmTiles$Kit" 57 yX0_kindIn ∈ wA := wA_in (wt2 96 rfl) rfl
theorem tw_337 : Cond.static yX0_kindIn ∈ wA := wA_in (wt2 97 rfl) rfl
theorem tw_338 : Cond.code yX0_kindIn prog_2_method_10_code 3 (some .int) ∈ wA := wA_in (wt2 98 rfl) rfl
theorem tw_339 : Cond.methodLink "RealmTiles$Kit" 60 yX0_hasSlots ∈ wA := wA_in (wt2 99 rfl) rfl
theorem tw_340 : Cond.static yX0_hasSlots ∈ wA := wA_in (wt2 100 rfl) rfl
theorem tw_341 : Cond.code yX0_hasSlots prog_2_method_7_code 1 (some .boolean) ∈ wA := wA_in (wt2 101 rfl) rfl
theorem tw_342 : Cond.methodLink "RealmTiles$Kit" 44 yX0_sidesAreRight ∈ wA := wA_in (wt2 102 rfl) rfl
theorem tw_343 : Cond.static yX0_sidesAreRight ∈ wA := wA_in (wt2 103 rfl) rfl
theorem tw_344 : Cond.code yX0_sidesAreRight prog_2_method_5_code 9 (some .boolean) ∈ wA := wA_in (wt2 104 rfl) rfl
theorem tw_345 : Cond.methodLink "RealmTiles$Kit" 47 yX0_touchesAreRight ∈ wA := wA_in (wt2 105 rfl) rfl
theorem tw_346 : Cond.static yX0_touchesAreRight ∈ wA := wA_in (wt2 106 rfl) rfl
theorem tw_347 : Cond.code yX0_touchesAreRight prog_2_method_6_code 7 (some .boolean) ∈ wA := wA_in (wt2 107 rfl) rfl
theorem tw_348 : Cond.methodLink "RealmTiles" 55 yX0_addType ∈ wA := wA_in (wt2 108 rfl) rfl
theorem tw_349 : Cond.instanceMethod yX0_addType ∈ wA := wA_in (wt2 109 rfl) rfl
theorem tw_350 : Cond.selects "RealmTiles$Kit" yX0_addType yX0_addType ∈ wA := wA_in (wt2 110 rfl) rfl
theorem tw_351 : Cond.code yX0_addType prog_2_method_11_code 10 (some .int) ∈ wA := wA_in (wt2 111 rfl) rfl
theorem tw_356 : Cond.methodLink "RealmTiles" 62 yX0_addToList ∈ wA := wA_in (wt2 116 rfl) rfl
theorem tw_357 : Cond.instanceMethod yX0_addToList ∈ wA := wA_in (wt2 117 rfl) rfl
theorem tw_358 : Cond.selects "RealmTiles$Kit" yX0_addToList yX0_addToList ∈ wA := wA_in (wt2 118 rfl) rfl
theorem tw_359 : Cond.code yX0_addToList prog_2_method_12_code 2 (some .int) ∈ wA := wA_in (wt2 119 rfl) rfl
theorem tw_364 : Cond.methodLink "RealmTiles" 66 yX4_forget ∈ wA := wA_in (wt2 124 rfl) rfl
theorem tw_365 : Cond.instanceMethod yX4_forget ∈ wA := wA_in (wt2 125 rfl) rfl
theorem tw_366 : Cond.selects "RealmTiles$Seeker" yX4_forget yX4_forget ∈ wA := wA_in (wt2 126 rfl) rfl
theorem tw_367 : Cond.code yX4_forget prog_6_method_2_code 1 none ∈ wA := wA_in (wt2 127 rfl) rfl
theorem tw_368 : Cond.methodLink "RealmTiles" 69 yX2_begin ∈ wA := wA_in (wt2 128 rfl) rfl
theorem tw_369 : Cond.instanceMethod yX2_begin ∈ wA := wA_in (wt2 129 rfl) rfl
theorem tw_370 : Cond.selects "RealmTiles$Match" yX2_begin yX2_begin ∈ wA := wA_in (wt2 130 rfl) rfl
theorem tw_371 : Cond.code yX2_begin prog_4_method_2_code 2 none ∈ wA := wA_in (wt2 131 rfl) rfl
theorem tw_372 : Cond.methodLink "RealmTiles$Match" 36 yX2_end ∈ wA := wA_in (wt2 132 rfl) rfl
theorem tw_373 : Cond.instanceMethod yX2_end ∈ wA := wA_in (wt2 133 rfl) rfl
theorem tw_374 : Cond.selects "RealmTiles$Match" yX2_end yX2_end ∈ wA := wA_in (wt2 134 rfl) rfl
theorem tw_375 : Cond.code yX2_end prog_4_method_3_code 2 none ∈ wA := wA_in (wt2 135 rfl) rfl
theorem tw_376 : Cond.methodLink "RealmTiles$Match" 49 yX2_steps ∈ wA := wA_in (wt2 136 rfl) rfl
theorem tw_377 : Cond.instanceMethod yX2_steps ∈ wA := wA_in (wt2 137 rfl) rfl
theorem tw_378 : Cond.selects "RealmTiles$Match" yX2_steps yX2_steps ∈ wA := wA_in (wt2 138 rfl) rfl
theorem tw_379 : Cond.code yX2_steps prog_4_method_5_code 1 (some .int) ∈ wA := wA_in (wt2 139 rfl) rfl
theorem tw_380 : Cond.methodLink "RealmTiles$Match" 53 yX2_stepBack ∈ wA := wA_in (wt2 140 rfl) rfl
theorem tw_381 : Cond.instanceMethod yX2_stepBack ∈ wA := wA_in (wt2 141 rfl) rfl
theorem tw_382 : Cond.selects "RealmTiles$Match" yX2_stepBack yX2_stepBack ∈ wA := wA_in (wt2 142 rfl) rfl
theorem tw_383 : Cond.code yX2_stepBack prog_4_method_12_code 1 none ∈ wA := wA_in (wt2 143 rfl) rfl
theorem tw_384 : Cond.methodLink "RealmTiles$Match" 151 yX5_liftTile ∈ wA := wA_in (wt2 144 rfl) rfl
theorem tw_385 : Cond.instanceMethod yX5_liftTile ∈ wA := wA_in (wt2 145 rfl) rfl
theorem tw_386 : Cond.selects "RealmTiles$Table" yX5_liftTile yX5_liftTile ∈ wA := wA_in (wt2 146 rfl) rfl
theorem tw_387 : Cond.code yX5_liftTile prog_7_method_6_code 4 none ∈ wA := wA_in (wt2 147 rfl) rfl
theorem tw_388 : Cond.methodLink "RealmTiles$Table" 96 yX3_partTo ∈ wA := wA_in (wt2 148 rfl) rfl
theorem tw_389 : Cond.instanceMethod yX3_partTo ∈ wA := wA_in (wt2 149 rfl) rfl
theorem tw_390 : Cond.selects "RealmTiles$Regions" yX3_partTo yX3_partTo ∈ wA := wA_in (wt2 150 rfl) rfl
theorem tw_391 : Cond.code yX3_partTo prog_5_method_5_code 5 none ∈ wA := wA_in (wt2 151 rfl) rfl
theorem tw_394 : Cond.methodLink "RealmTiles$Table" 86 yX5_openSide ∈ wA := wA_in (wt2 154 rfl) rfl
theorem tw_396 : Cond.instanceMethod yX5_openSide ∈ wA := wA_in (wt2 156 rfl) rfl
theorem tw_397 : Cond.code yX5_openSide prog_7_method_7_code 7 none ∈ wA := wA_in (wt2 157 rfl) rfl
theorem tw_398 : Cond.methodLink "RealmTiles$Table" 103 yX5_pieceAt ∈ wA := wA_in (wt2 158 rfl) rfl
theorem tw_400 : Cond.instanceMethod yX5_pieceAt ∈ wA := wA_in (wt2 160 rfl) rfl
theorem tw_401 : Cond.code yX5_pieceAt prog_7_method_10_code 4 (some .int) ∈ wA := wA_in (wt2 161 rfl) rfl
theorem tw_402 : Cond.methodLink "RealmTiles$Table" 106 yX5_slotBeside ∈ wA := wA_in (wt2 162 rfl) rfl
theorem tw_403 : Cond.static yX5_slotBeside ∈ wA := wA_in (wt2 163 rfl) rfl
theorem tw_404 : Cond.code yX5_slotBeside prog_7_method_9_code 2 (some .int) ∈ wA := wA_in (wt2 164 rfl) rfl
theorem tw_405 : Cond.methodLink "RealmTiles$Table" 110 yX3_rootOf ∈ wA := wA_in (wt2 165 rfl) rfl
theorem tw_406 : Cond.instanceMethod yX3_rootOf ∈ wA := wA_in (wt2 166 rfl) rfl
theorem tw_407 : Cond.selects "RealmTiles$Regions" yX3_rootOf yX3_rootOf ∈ wA := wA_in (wt2 167 rfl) rfl
theorem tw_408 : Cond.code yX3_rootOf prog_5_method_3_code 4 (some .int) ∈ wA := wA_in (wt2 168 rfl) rfl
theorem tw_411 : Cond.methodLink "RealmTiles$Match" 154 yX2_restore ∈ wA := wA_in (wt2 171 rfl) rfl
theorem tw_413 : Cond.instanceMethod yX2_restore ∈ wA := wA_in (wt2 173 rfl) rfl
theorem tw_414 : Cond.code yX2_restore prog_4_method_14_code 3 none ∈ wA := wA_in (wt2 174 rfl) rfl
theorem tw_415 : Cond.methodLink "RealmTiles$Match" 160 yX3_takeMenBackTo ∈ wA := wA_in (wt2 175 rfl) rfl
theorem tw_416 : Cond.instanceMethod yX3_takeMenBackTo ∈ wA := wA_in (wt2 176 rfl) rfl
theorem tw_417 : Cond.selects "RealmTiles$Regions" yX3_takeMenBackTo yX3_takeMenBackTo ∈ wA := wA_in (wt2 177 rfl) rfl
theorem tw_418 : Cond.code yX3_takeMenBackTo prog_5_method_7_code 3 none ∈ wA := wA_in (wt2 178 rfl) rfl
theorem tw_419 : Cond.methodLink "RealmTiles$Match" 65 yJ7_fill ∈ wA := wA_in (wt2 179 rfl) rfl
theorem tw_420 : Cond.methodLink "RealmTiles$Match" 46 yX2_drawNext ∈ wA := wA_in (wt2 180 rfl) rfl
theorem tw_422 : Cond.instanceMethod yX2_drawNext ∈ wA := wA_in (wt2 182 rfl) rfl
theorem tw_423 : Cond.code yX2_drawNext prog_4_method_11_code 2 none ∈ wA := wA_in (wt2 183 rfl) rfl
theorem tw_424 : Cond.methodLink "RealmTiles$Match" 145 yX5_nextFit ∈ wA := wA_in (wt2 184 rfl) rfl
theorem tw_425 : Cond.instanceMethod yX5_nextFit ∈ wA := wA_in (wt2 185 rfl) rfl
theorem tw_426 : Cond.selects "RealmTiles$Table" yX5_nextFit yX5_nextFit ∈ wA := wA_in (wt2 186 rfl) rfl
theorem tw_427 : Cond.code yX5_nextFit prog_7_method_2_code 5 (some .int) ∈ wA := wA_in (wt2 187 rfl) rfl
theorem tw_428 : Cond.methodLink "RealmTiles$Table" 53 yX5_sidesMatch ∈ wA := wA_in (wt2 188 rfl) rfl
theorem tw_430 : Cond.instanceMethod yX5_sidesMatch ∈ wA := wA_in (wt2 190 rfl) rfl
theorem tw_431 : Cond.code yX5_sidesMatch prog_7_method_3_code 8 (some .boolean) ∈ wA := wA_in (wt2 191 rfl) rfl
theorem tw_436 : Cond.methodLink "RealmTiles" 73 yX2_end ∈ wA := wA_in (wt2 196 rfl) rfl
theorem tw_437 : Cond.methodLink "RealmTiles" 76 yX0_forget ∈ wA := wA_in (wt2 197 rfl) rfl
theorem tw_438 : Cond.instanceMethod yX0_forget ∈ wA := wA_in (wt2 198 rfl) rfl
theorem tw_439 : Cond.selects "RealmTiles$Kit" yX0_forget yX0_forget ∈ wA := wA_in (wt2 199 rfl) rfl
theorem tw_440 : Cond.code yX0_forget prog_2_method_13_code 1 none ∈ wA := wA_in (wt2 200 rfl) rfl
theorem tw_449 : Cond.methodLink "RealmTiles" 80 yX2_toMove ∈ wA := wA_in (wt2 209 rfl) rfl
theorem tw_450 : Cond.instanceMethod yX2_toMove ∈ wA := wA_in (wt2 210 rfl) rfl
theorem tw_451 : Cond.selects "RealmTiles$Match" yX2_toMove yX2_toMove ∈ wA := wA_in (wt2 211 rfl) rfl
theorem tw_452 : Cond.code yX2_toMove prog_4_method_4_code 1 (some .int) ∈ wA := wA_in (wt2 212 rfl) rfl
theorem tw_453 : Cond.methodLink "RealmTiles" 90 yX2_steps ∈ wA := wA_in (wt2 213 rfl) rfl
theorem tw_458 : Cond.methodLink "RealmTiles" 99 yX5_fitNumber ∈ wA := wA_in (wt2 218 rfl) rfl
theorem tw_459 : Cond.instanceMethod yX5_fitNumber ∈ wA := wA_in (wt2 219 rfl) rfl
theorem tw_460 : Cond.selects "RealmTiles$Table" yX5_fitNumber yX5_fitNumber ∈ wA := wA_in (wt2 220 rfl) rfl
theorem tw_461 : Cond.code yX5_fitNumber prog_7_method_4_code 5 (some .int) ∈ wA := wA_in (wt2 221 rfl) rfl
theorem tw_462 : Cond.methodLink "RealmTiles$Table" 65 yX5_nextFit ∈ wA := wA_in (wt2 222 rfl) rfl
theorem tw_463 : Cond.methodLink "RealmTiles" 103 yX6_tellSpot ∈ wA := wA_in (wt2 223 rfl) rfl
theorem tw_464 : Cond.static yX6_tellSpot ∈ wA := wA_in (wt2 224 rfl) rfl
theorem tw_465 : Cond.code yX6_tellSpot prog_1_method_19_code 2 (some .int) ∈ wA := wA_in (wt2 225 rfl) rfl
theorem tw_470 : Cond.methodLink "RealmTiles" 106 yX6_isPlace ∈ wA := wA_in (wt2 230 rfl) rfl
theorem tw_471 : Cond.static yX6_isPlace ∈ wA := wA_in (wt2 231 rfl) rfl
theorem tw_472 : Cond.code yX6_isPlace prog_1_method_17_code 2 (some .boolean) ∈ wA := wA_in (wt2 232 rfl) rfl
theorem tw_473 : Cond.methodLink "RealmTiles" 110 yX6_cellAt ∈ wA := wA_in (wt2 233 rfl) rfl
theorem tw_474 : Cond.static yX6_cellAt ∈ wA := wA_in (wt2 234 rfl) rfl
theorem tw_475 : Cond.code yX6_cellAt prog_1_method_18_code 2 (some .int) ∈ wA := wA_in (wt2 235 rfl) rfl
theorem tw_476 : Cond.methodLink "RealmTiles" 113 yX5_nextFit ∈ wA := wA_in (wt2 236 rfl) rfl
theorem tw_477 : Cond.methodLink "RealmTiles" 116 yX2_lay ∈ wA := wA_in (wt2 237 rfl) rfl
theorem tw_478 : Cond.instanceMethod yX2_lay ∈ wA := wA_in (wt2 238 rfl) rfl
theorem tw_479 : Cond.selects "RealmTiles$Match" yX2_lay yX2_lay ∈ wA := wA_in (wt2 239 rfl) rfl
theorem tw_480 : Cond.code yX2_lay prog_4_method_6_code 2 none ∈ wA := wA_in (wt3 0 rfl) rfl
theorem tw_481 : Cond.methodLink "RealmTiles$Match" 79 yX5_addTile ∈ wA := wA_in (wt3 1 rfl) rfl
theorem tw_482 : Cond.instanceMethod yX5_addTile ∈ wA := wA_in (wt3 2 rfl) rfl
theorem tw_483 : Cond.selects "RealmTiles$Table" yX5_addTile yX5_addTile ∈ wA := wA_in (wt3 3 rfl) rfl
theorem tw_484 : Cond.code yX5_addTile prog_7_method_5_code 7 none ∈ wA := wA_in (wt3 4 rfl) rfl
theorem tw_485 : Cond.methodLink "RealmTiles$Table" 82 yX3_found ∈ wA := wA_in (wt3 5 rfl) rfl
theorem tw_486 : Cond.instanceMethod yX3_found ∈ wA := wA_in (wt3 6 rfl) rfl
theorem tw_487 : Cond.selects "RealmTiles$Regions" yX3_found yX3_found ∈ wA := wA_in (wt3 7 rfl) rfl
theorem tw_488 : Cond.code yX3_found prog_5_method_2_code 4 none ∈ wA := wA_in (wt3 8 rfl) rfl
theorem tw_489 : Cond.methodLink "RealmTiles$Table" 89 yX5_joinSide ∈ wA := wA_in (wt3 9 rfl) rfl
theorem tw_491 : Cond.instanceMethod yX5_joinSide ∈ wA := wA_in (wt3 11 rfl) rfl
theorem tw_492 : Cond.code yX5_joinSide prog_7_method_8_code 8 none ∈ wA := wA_in (wt3 12 rfl) rfl
theorem tw_493 : Cond.methodLink "RealmTiles$Table" 113 yX3_join ∈ wA := wA_in (wt3 13 rfl) rfl
theorem tw_494 : Cond.instanceMethod yX3_join ∈ wA := wA_in (wt3 14 rfl) rfl
theorem tw_495 : Cond.selects "RealmTiles$Regions" yX3_join yX3_join ∈ wA := wA_in (wt3 15 rfl) rfl
theorem tw_496 : Cond.code yX3_join prog_5_method_4_code 5 none ∈ wA := wA_in (wt3 16 rfl) rfl
theorem tw_497 : Cond.methodLink "RealmTiles$Regions" 39 Lib.Math.min.name ∈ wA := wA_in (wt3 17 rfl) rfl
theorem tw_498 : Cond.static Lib.Math.min.name ∈ wA := wA_in (wt3 18 rfl) rfl
theorem tw_499 : Cond.code Lib.Math.min.name Lib.Math.min.code 2 (some .int) ∈ wA := wA_in (wt3 19 rfl) rfl
theorem tw_500 : Cond.methodLink "RealmTiles$Regions" 45 Lib.Math.max.name ∈ wA := wA_in (wt3 20 rfl) rfl
theorem tw_501 : Cond.static Lib.Math.max.name ∈ wA := wA_in (wt3 21 rfl) rfl
theorem tw_502 : Cond.code Lib.Math.max.name Lib.Math.max.code 2 (some .int) ∈ wA := wA_in (wt3 22 rfl) rfl
theorem tw_507 : Cond.methodLink "RealmTiles" 119 yX2_mayPut ∈ wA := wA_in (wt3 27 rfl) rfl
theorem tw_508 : Cond.instanceMethod yX2_mayPut ∈ wA := wA_in (wt3 28 rfl) rfl
theorem tw_509 : Cond.selects "RealmTiles$Match" yX2_mayPut yX2_mayPut ∈ wA := wA_in (wt3 29 rfl) rfl
theorem tw_510 : Cond.code yX2_mayPut prog_4_method_7_code 3 (some .boolean) ∈ wA := wA_in (wt3 30 rfl) rfl
theorem tw_511 : Cond.methodLink "RealmTiles$Match" 83 yX5_kindOf ∈ wA := wA_in (wt3 31 rfl) rfl
theorem tw_512 : Cond.instanceMethod yX5_kindOf ∈ wA := wA_in (wt3 32 rfl) rfl
theorem tw_513 : Cond.selects "RealmTiles$Table" yX5_kindOf yX5_kindOf ∈ wA := wA_in (wt3 33 rfl) rfl
theorem tw_514 : Cond.code yX5_kindOf prog_7_method_11_code 2 (some .int) ∈ wA := wA_in (wt3 34 rfl) rfl
theorem tw_515 : Cond.methodLink "RealmTiles$Match" 96 yX3_rootOf ∈ wA := wA_in (wt3 35 rfl) rfl
theorem tw_516 : Cond.methodLink "RealmTiles" 123 yX2_put ∈ wA := wA_in (wt3 36 rfl) rfl
theorem tw_517 : Cond.instanceMethod yX2_put ∈ wA := wA_in (wt3 37 rfl) rfl
theorem tw_518 : Cond.selects "RealmTiles$Match" yX2_put yX2_put ∈ wA := wA_in (wt3 38 rfl) rfl
theorem tw_519 : Cond.code yX2_put prog_4_method_8_code 3 (some .int) ∈ wA := wA_in (wt3 39 rfl) rfl
theorem tw_520 : Cond.methodLink "RealmTiles$Match" 99 yX2_save ∈ wA := wA_in (wt3 40 rfl) rfl
theorem tw_522 : Cond.instanceMethod yX2_save ∈ wA := wA_in (wt3 42 rfl) rfl
theorem tw_523 : Cond.code yX2_save prog_4_method_13_code 3 none ∈ wA := wA_in (wt3 43 rfl) rfl
theorem tw_525 : Cond.static yX6_oneMan ∈ wA := wA_in (wt3 45 rfl) rfl
theorem tw_526 : Cond.code yX6_oneMan prog_1_method_21_code 1 (some .int) ∈ wA := wA_in (wt3 46 rfl) rfl
theorem tw_527 : Cond.methodLink "RealmTiles$Match" 105 yX3_setMen ∈ wA := wA_in (wt3 47 rfl) rfl
theorem tw_528 : Cond.instanceMethod yX3_setMen ∈ wA := wA_in (wt3 48 rfl) rfl
theorem tw_529 : Cond.selects "RealmTiles$Regions" yX3_setMen yX3_setMen ∈ wA := wA_in (wt3 49 rfl) rfl
theorem tw_530 : Cond.code yX3_setMen prog_5_method_6_code 3 none ∈ wA := wA_in (wt3 50 rfl) rfl
theorem tw_531 : Cond.methodLink "RealmTiles$Match" 108 yX2_settle ∈ wA := wA_in (wt3 51 rfl) rfl
theorem tw_533 : Cond.instanceMethod yX2_settle ∈ wA := wA_in (wt3 53 rfl) rfl
theorem tw_534 : Cond.code yX2_settle prog_4_method_9_code 5 (some .int) ∈ wA := wA_in (wt3 54 rfl) rfl
theorem tw_535 : Cond.methodLink "RealmTiles$Match" 111 yX2_pay ∈ wA := wA_in (wt3 55 rfl) rfl
theorem tw_537 : Cond.instanceMethod yX2_pay ∈ wA := wA_in (wt3 57 rfl) rfl
theorem tw_538 : Cond.code yX2_pay prog_4_method_10_code 7 (some .int) ∈ wA := wA_in (wt3 58 rfl) rfl
theorem tw_539 : Cond.methodLink "RealmTiles$Match" 123 yX5_isFinished ∈ wA := wA_in (wt3 59 rfl) rfl
theorem tw_540 : Cond.instanceMethod yX5_isFinished ∈ wA := wA_in (wt3 60 rfl) rfl
theorem tw_541 : Cond.selects "RealmTiles$Table" yX5_isFinished yX5_isFinished ∈ wA := wA_in (wt3 61 rfl) rfl
theorem tw_542 : Cond.code yX5_isFinished prog_7_method_13_code 2 (some .boolean) ∈ wA := wA_in (wt3 62 rfl) rfl
theorem tw_543 : Cond.methodLink "RealmTiles$Table" 122 yX5_kindOf ∈ wA := wA_in (wt3 63 rfl) rfl
theorem tw_544 : Cond.methodLink "RealmTiles$Match" 127 yX5_finishedWorth ∈ wA := wA_in (wt3 64 rfl) rfl
theorem tw_545 : Cond.instanceMethod yX5_finishedWorth ∈ wA := wA_in (wt3 65 rfl) rfl
theorem tw_546 : Cond.selects "RealmTiles$Table" yX5_finishedWorth yX5_finishedWorth ∈ wA := wA_in (wt3 66 rfl) rfl
theorem tw_547 : Cond.code yX5_finishedWorth prog_7_method_15_code 3 (some .int) ∈ wA := wA_in (wt3 67 rfl) rfl
theorem tw_548 : Cond.methodLink "RealmTiles$Table" 134 yJ6_bitCount ∈ wA := wA_in (wt3 68 rfl) rfl
theorem tw_549 : Cond.static yJ6_bitCount ∈ wA := wA_in (wt3 69 rfl) rfl
theorem tw_550 : Cond.code yJ6_bitCount prog_10_method_49_code 1 (some .int) ∈ wA := wA_in (wt3 70 rfl) rfl
theorem tw_551 : Cond.constant "java/lang/Integer" 265 (1431655765) ∈ wA := wA_in (wt3 71 rfl) rfl
theorem tw_552 : Cond.constant "java/lang/Integer" 266 (858993459) ∈ wA := wA_in (wt3 72 rfl) rfl
theorem tw_553 : Cond.constant "java/lang/Integer" 267 (252645135) ∈ wA := wA_in (wt3 73 rfl) rfl
theorem tw_555 : Cond.static yX6_mostMen ∈ wA := wA_in (wt3 75 rfl) rfl
theorem tw_556 : Cond.code yX6_mostMen prog_1_method_22_code 1 (some .int) ∈ wA := wA_in (wt3 76 rfl) rfl
theorem tw_557 : Cond.methodLink "RealmTiles" 168 yX6_menOf ∈ wA := wA_in (wt3 77 rfl) rfl
theorem tw_558 : Cond.static yX6_menOf ∈ wA := wA_in (wt3 78 rfl) rfl
theorem tw_559 : Cond.code yX6_menOf prog_1_method_20_code 2 (some .int) ∈ wA := wA_in (wt3 79 rfl) rfl
theorem tw_560 : Cond.methodLink "RealmTiles" 198 Lib.Math.max.name ∈ wA := wA_in (wt3 80 rfl) rfl
theorem tw_563 : Cond.methodLink "RealmTiles$Match" 120 yX5_cloisterAt ∈ wA := wA_in (wt3 83 rfl) rfl
theorem tw_564 : Cond.instanceMethod yX5_cloisterAt ∈ wA := wA_in (wt3 84 rfl) rfl
theorem tw_565 : Cond.selects "RealmTiles$Table" yX5_cloisterAt yX5_cloisterAt ∈ wA := wA_in (wt3 85 rfl) rfl
theorem tw_566 : Cond.code yX5_cloisterAt prog_7_method_14_code 3 (some .int) ∈ wA := wA_in (wt3 86 rfl) rfl
theorem tw_571 : Cond.methodLink "RealmTiles" 126 yX2_stepBack ∈ wA := wA_in (wt3 91 rfl) rfl
theorem tw_576 : Cond.methodLink "RealmTiles" 133 yX5_kindOf ∈ wA := wA_in (wt3 96 rfl) rfl
theorem tw_577 : Cond.methodLink "RealmTiles" 140 yX3_rootOf ∈ wA := wA_in (wt3 97 rfl) rfl
theorem tw_582 : Cond.methodLink "RealmTiles" 145 yX5_isRegion ∈ wA := wA_in (wt3 102 rfl) rfl
theorem tw_583 : Cond.instanceMethod yX5_isRegion ∈ wA := wA_in (wt3 103 rfl) rfl
theorem tw_584 : Cond.selects "RealmTiles$Table" yX5_isRegion yX5_isRegion ∈ wA := wA_in (wt3 104 rfl) rfl
theorem tw_585 : Cond.code yX5_isRegion prog_7_method_12_code 2 (some .boolean) ∈ wA := wA_in (wt3 105 rfl) rfl
theorem tw_586 : Cond.methodLink "RealmTiles" 151 yJ6_bitCount ∈ wA := wA_in (wt3 106 rfl) rfl
theorem tw_587 : Cond.methodLink "RealmTiles" 162 yX5_isFinished ∈ wA := wA_in (wt3 107 rfl) rfl
theorem tw_592 : Cond.methodLink "RealmTiles" 180 yX2_reckonFinals ∈ wA := wA_in (wt3 112 rfl) rfl
theorem tw_593 : Cond.instanceMethod yX2_reckonFinals ∈ wA := wA_in (wt3 113 rfl) rfl
theorem tw_594 : Cond.selects "RealmTiles$Match" yX2_reckonFinals yX2_reckonFinals ∈ wA := wA_in (wt3 114 rfl) rfl
theorem tw_595 : Cond.code yX2_reckonFinals prog_4_method_15_code 3 none ∈ wA := wA_in (wt3 115 rfl) rfl
theorem tw_596 : Cond.methodLink "RealmTiles$Match" 167 yX5_finalWorth ∈ wA := wA_in (wt3 116 rfl) rfl
theorem tw_597 : Cond.instanceMethod yX5_finalWorth ∈ wA := wA_in (wt3 117 rfl) rfl
theorem tw_598 : Cond.selects "RealmTiles$Table" yX5_finalWorth yX5_finalWorth ∈ wA := wA_in (wt3 118 rfl) rfl
theorem tw_599 : Cond.code yX5_finalWorth prog_7_method_16_code 3 (some .int) ∈ wA := wA_in (wt3 119 rfl) rfl
theorem tw_600 : Cond.methodLink "RealmTiles$Table" 140 yX5_finishedCitiesAt ∈ wA := wA_in (wt3 120 rfl) rfl
theorem tw_602 : Cond.instanceMethod yX5_finishedCitiesAt ∈ wA := wA_in (wt3 122 rfl) rfl
theorem tw_603 : Cond.code yX5_finishedCitiesAt prog_7_method_17_code 6 (some .int) ∈ wA := wA_in (wt3 123 rfl) rfl
theorem tw_604 : Cond.methodLink "RealmTiles$Table" 149 yX5_newFinishedCities ∈ wA := wA_in (wt3 124 rfl) rfl
theorem tw_606 : Cond.instanceMethod yX5_newFinishedCities ∈ wA := wA_in (wt3 126 rfl) rfl
theorem tw_607 : Cond.code yX5_newFinishedCities prog_7_method_18_code 6 (some .int) ∈ wA := wA_in (wt3 127 rfl) rfl
theorem tw_608 : Cond.methodLink "RealmTiles$Match" 170 yX2_addFinals ∈ wA := wA_in (wt3 128 rfl) rfl
theorem tw_610 : Cond.instanceMethod yX2_addFinals ∈ wA := wA_in (wt3 130 rfl) rfl
theorem tw_611 : Cond.code yX2_addFinals prog_4_method_16_code 5 none ∈ wA := wA_in (wt3 131 rfl) rfl
theorem tw_616 : Cond.methodLink "RealmTiles" 186 yX4_seek ∈ wA := wA_in (wt3 136 rfl) rfl
theorem tw_617 : Cond.instanceMethod yX4_seek ∈ wA := wA_in (wt3 137 rfl) rfl
theorem tw_618 : Cond.selects "RealmTiles$Seeker" yX4_seek yX4_seek ∈ wA := wA_in (wt3 138 rfl) rfl
theorem tw_619 : Cond.code yX4_seek prog_6_method_3_code 6 (some .boolean) ∈ wA := wA_in (wt3 139 rfl) rfl
theorem tw_620 : Cond.methodLink "RealmTiles$Seeker" 30 yX2_steps ∈ wA := wA_in (wt3 140 rfl) rfl
theorem tw_621 : Cond.methodLink "RealmTiles$Seeker" 39 yX1_begin ∈ wA := wA_in (wt3 141 rfl) rfl
theorem tw_622 : Cond.instanceMethod yX1_begin ∈ wA := wA_in (wt3 142 rfl) rfl
theorem tw_623 : Cond.selects "RealmTiles$Level" yX1_begin yX1_begin ∈ wA := wA_in (wt3 143 rfl) rfl
theorem tw_624 : Cond.code yX1_begin prog_3_method_2_code 2 none ∈ wA := wA_in (wt3 144 rfl) rfl
theorem tw_625 : Cond.methodLink "RealmTiles$Seeker" 43 yX4_makeNextLine ∈ wA := wA_in (wt3 145 rfl) rfl
theorem tw_627 : Cond.instanceMethod yX4_makeNextLine ∈ wA := wA_in (wt3 147 rfl) rfl
theorem tw_628 : Cond.code yX4_makeNextLine prog_6_method_6_code 3 (some .boolean) ∈ wA := wA_in (wt3 148 rfl) rfl
theorem tw_629 : Cond.methodLink "RealmTiles$Seeker" 93 yX2_mayPut ∈ wA := wA_in (wt3 149 rfl) rfl
theorem tw_630 : Cond.methodLink "RealmTiles$Seeker" 97 yX2_put ∈ wA := wA_in (wt3 150 rfl) rfl
theorem tw_631 : Cond.methodLink "RealmTiles$Seeker" 54 yX2_stepBack ∈ wA := wA_in (wt3 151 rfl) rfl
theorem tw_632 : Cond.methodLink "RealmTiles$Seeker" 101 yX5_nextFit ∈ wA := wA_in (wt3 152 rfl) rfl
theorem tw_633 : Cond.methodLink "RealmTiles$Seeker" 107 yX2_lay ∈ wA := wA_in (wt3 153 rfl) rfl
theorem tw_634 : Cond.methodLink "RealmTiles$Seeker" 47 yX4_lookBehindLine ∈ wA := wA_in (wt3 154 rfl) rfl
theorem tw_636 : Cond.instanceMethod yX4_lookBehindLine ∈ wA := wA_in (wt3 156 rfl) rfl
theorem tw_637 : Cond.code yX4_lookBehindLine prog_6_method_4_code 2 (some .int) ∈ wA := wA_in (wt3 157 rfl) rfl
theorem tw_638 : Cond.methodLink "RealmTiles$Seeker" 73 yX2_reckonFinals ∈ wA := wA_in (wt3 158 rfl) rfl
theorem tw_639 : Cond.methodLink "RealmTiles$Seeker" 83 yX1_weigh ∈ wA := wA_in (wt3 159 rfl) rfl
theorem tw_640 : Cond.instanceMethod yX1_weigh ∈ wA := wA_in (wt3 160 rfl) rfl
theorem tw_641 : Cond.selects "RealmTiles$Level" yX1_weigh yX1_weigh ∈ wA := wA_in (wt3 161 rfl) rfl
theorem tw_642 : Cond.code yX1_weigh prog_3_method_3_code 5 none ∈ wA := wA_in (wt3 162 rfl) rfl
theorem tw_643 : Cond.methodLink "RealmTiles$Level" 29 Lib.Math.max.name ∈ wA := wA_in (wt3 163 rfl) rfl
theorem tw_644 : Cond.methodLink "RealmTiles$Level" 47 arraycopyName ∈ wA := wA_in (wt3 164 rfl) rfl
theorem tw_645 : Cond.static arraycopyName ∈ wA := wA_in (wt3 165 rfl) rfl
theorem tw_646 : Cond.native arraycopyName ∈ wA := wA_in (wt3 166 rfl) rfl
theorem tw_647 : Cond.methodLink "RealmTiles$Seeker" 51 yX4_endLine ∈ wA := wA_in (wt3 167 rfl) rfl
theorem tw_649 : Cond.instanceMethod yX4_endLine ∈ wA := wA_in (wt3 169 rfl) rfl
theorem tw_650 : Cond.code yX4_endLine prog_6_method_5_code 2 none ∈ wA := wA_in (wt3 170 rfl) rfl
theorem tw_661 : Cond.fieldLink "RealmTilesModel" 98 "RealmTilesModel" "types" "I" ∈ wA := wA_in (wt3 181 rfl) rfl
theorem tw_662 : Cond.fieldLink "RealmTilesModel" 7 "RealmTilesModel" "partOf" "[I" ∈ wA := wA_in (wt3 182 rfl) rfl
theorem tw_663 : Cond.fieldLink "RealmTilesModel" 13 "RealmTilesModel" "kindOf" "[I" ∈ wA := wA_in (wt3 183 rfl) rfl
theorem tw_664 : Cond.fieldLink "RealmTilesModel" 16 "RealmTilesModel" "shield" "[Z" ∈ wA := wA_in (wt3 184 rfl) rfl
theorem tw_665 : Cond.fieldLink "RealmTilesModel" 20 "RealmTilesModel" "touch" "[I" ∈ wA := wA_in (wt3 185 rfl) rfl
theorem tw_666 : Cond.fieldLink "RealmTilesModel" 107 "RealmTilesModel" "listed" "I" ∈ wA := wA_in (wt3 186 rfl) rfl
theorem tw_667 : Cond.fieldLink "RealmTilesModel" 23 "RealmTilesModel" "list" "[I" ∈ wA := wA_in (wt3 187 rfl) rfl
theorem tw_668 : Cond.fieldLink "RealmTilesModel" 101 "RealmTilesModel" "on" "Z" ∈ wA := wA_in (wt3 188 rfl) rfl
theorem tw_669 : Cond.fieldLink "RealmTilesModel" 160 "RealmTilesModel" "players" "I" ∈ wA := wA_in (wt3 189 rfl) rfl
theorem tw_670 : Cond.fieldLink "RealmTilesModel" 122 "RealmTilesModel" "tiles" "I" ∈ wA := wA_in (wt3 190 rfl) rfl
theorem tw_671 : Cond.fieldLink "RealmTilesModel" 26 "RealmTilesModel" "tileX" "[I" ∈ wA := wA_in (wt3 191 rfl) rfl
theorem tw_672 : Cond.fieldLink "RealmTilesModel" 29 "RealmTilesModel" "tileY" "[I" ∈ wA := wA_in (wt3 192 rfl) rfl
theorem tw_673 : Cond.fieldLink "RealmTilesModel" 32 "RealmTilesModel" "tileType" "[I" ∈ wA := wA_in (wt3 193 rfl) rfl
theorem tw_674 : Cond.fieldLink "RealmTilesModel" 35 "RealmTilesModel" "tileTurn" "[I" ∈ wA := wA_in (wt3 194 rfl) rfl
theorem tw_675 : Cond.fieldLink "RealmTilesModel" 38 "RealmTilesModel" "board" "[I" ∈ wA := wA_in (wt3 195 rfl) rfl
theorem tw_676 : Cond.fieldLink "RealmTilesModel" 41 "RealmTilesModel" "owner" "[I" ∈ wA := wA_in (wt3 196 rfl) rfl
theorem tw_677 : Cond.fieldLink "RealmTilesModel" 44 "RealmTilesModel" "points" "[I" ∈ wA := wA_in (wt3 197 rfl) rfl
theorem tw_678 : Cond.fieldLink "RealmTilesModel" 47 "RealmTilesModel" "left" "[I" ∈ wA := wA_in (wt3 198 rfl) rfl
theorem tw_679 : Cond.fieldLink "RealmTilesModel" 148 "RealmTilesModel" "whose" "I" ∈ wA := wA_in (wt3 199 rfl) rfl
theorem tw_680 : Cond.fieldLink "RealmTilesModel" 139 "RealmTilesModel" "next" "I" ∈ wA := wA_in (wt3 200 rfl) rfl
theorem tw_681 : Cond.fieldLink "RealmTilesModel" 50 "RealmTilesModel" "drawn" "I" ∈ wA := wA_in (wt3 201 rfl) rfl
theorem tw_682 : Cond.fieldLink "RealmTilesModel" 145 "RealmTilesModel" "aside" "I" ∈ wA := wA_in (wt3 202 rfl) rfl
theorem tw_683 : Cond.fieldLink "RealmTilesModel" 151 "RealmTilesModel" "laid" "Z" ∈ wA := wA_in (wt3 203 rfl) rfl
theorem tw_684 : Cond.fieldLink "RealmTilesModel" 163 "RealmTilesModel" "steps" "I" ∈ wA := wA_in (wt3 204 rfl) rfl
theorem tw_685 : Cond.fieldLink "RealmTilesModel" 54 "RealmTilesModel" "step" "[I" ∈ wA := wA_in (wt3 205 rfl) rfl
theorem tw_686 : Cond.fieldLink "RealmTilesModel" 57 "RealmTilesModel" "label" "[I" ∈ wA := wA_in (wt3 206 rfl) rfl
theorem tw_687 : Cond.fieldLink "RealmTilesModel" 154 "RealmTilesModel" "labelled" "Z" ∈ wA := wA_in (wt3 207 rfl) rfl
theorem tw_688 : Cond.fieldLink "RealmTilesModel" 60 "RealmTilesModel" "copies" "[I" ∈ wA := wA_in (wt3 208 rfl) rfl
theorem tw_689 : Cond.fieldLink "RealmTilesModel" 63 "RealmTilesModel" "finals" "[I" ∈ wA := wA_in (wt3 209 rfl) rfl
theorem tw_690 : Cond.fieldLink "RealmTilesModel" 66 "RealmTilesModel" "bestFinals" "[I" ∈ wA := wA_in (wt3 210 rfl) rfl
theorem tw_691 : Cond.fieldLink "RealmTilesModel" 237 "RealmTilesModel" "positions" "I" ∈ wA := wA_in (wt3 211 rfl) rfl
theorem tw_692 : Cond.fieldLink "RealmTilesModel" 166 "RealmTilesModel" "found" "Z" ∈ wA := wA_in (wt3 212 rfl) rfl
theorem tw_693 : Cond.fieldLink "RealmTilesModel" 69 "RealmTilesModel" "line" "[I" ∈ wA := wA_in (wt3 213 rfl) rfl
theorem tw_694 : Cond.fieldLink "RealmTilesModel" 72 "RealmTilesModel" "lineNow" "[I" ∈ wA := wA_in (wt3 214 rfl) rfl
theorem tw_695 : Cond.lays "RealmTilesModel" "RealmTilesModel" "types" "I" ∈ wA := wA_in (wt3 215 rfl) rfl
theorem tw_697 : Cond.laysFinal "RealmTilesModel" "RealmTilesModel" "partOf" "[I" ∈ wA := wA_in (wt3 217 rfl) rfl
theorem tw_699 : Cond.laysFinal "RealmTilesModel" "RealmTilesModel" "kindOf" "[I" ∈ wA := wA_in (wt3 219 rfl) rfl
theorem tw_701 : Cond.laysFinal "RealmTilesModel" "RealmTilesModel" "shield" "[Z" ∈ wA := wA_in (wt3 221 rfl) rfl
theorem tw_703 : Cond.laysFinal "RealmTilesModel" "RealmTilesModel" "touch" "[I" ∈ wA := wA_in (wt3 223 rfl) rfl
theorem tw_705 : Cond.lays "RealmTilesModel" "RealmTilesModel" "listed" "I" ∈ wA := wA_in (wt3 225 rfl) rfl
theorem tw_707 : Cond.laysFinal "RealmTilesModel" "RealmTilesModel" "list" "[I" ∈ wA := wA_in (wt3 227 rfl) rfl
theorem tw_709 : Cond.lays "RealmTilesModel" "RealmTilesModel" "on" "Z" ∈ wA := wA_in (wt3 229 rfl) rfl
theorem tw_711 : Cond.lays "RealmTilesModel" "RealmTilesModel" "players" "I" ∈ wA := wA_in (wt3 231 rfl) rfl
theorem tw_713 : Cond.lays "RealmTilesModel" "RealmTilesModel" "tiles" "I" ∈ wA := wA_in (wt3 233 rfl) rfl
theorem tw_715 : Cond.laysFinal "RealmTilesModel" "RealmTilesModel" "tileX" "[I" ∈ wA := wA_in (wt3 235 rfl) rfl
theorem tw_717 : Cond.laysFinal "RealmTilesModel" "RealmTilesModel" "tileY" "[I" ∈ wA := wA_in (wt3 237 rfl) rfl
theorem tw_719 : Cond.laysFinal "RealmTilesModel" "RealmTilesModel" "tileType" "[I" ∈ wA := wA_in (wt3 239 rfl) rfl
theorem tw_721 : Cond.laysFinal "RealmTilesModel" "RealmTilesModel" "tileTurn" "[I" ∈ wA := wA_in (wt4 1 rfl) rfl
theorem tw_723 : Cond.laysFinal "RealmTilesModel" "RealmTilesModel" "board" "[I" ∈ wA := wA_in (wt4 3 rfl) rfl
theorem tw_725 : Cond.laysFinal "RealmTilesModel" "RealmTilesModel" "owner" "[I" ∈ wA := wA_in (wt4 5 rfl) rfl
theorem tw_727 : Cond.laysFinal "RealmTilesModel" "RealmTilesModel" "points" "[I" ∈ wA := wA_in (wt4 7 rfl) rfl
theorem tw_729 : Cond.laysFinal "RealmTilesModel" "RealmTilesModel" "left" "[I" ∈ wA := wA_in (wt4 9 rfl) rfl
theorem tw_731 : Cond.lays "RealmTilesModel" "RealmTilesModel" "whose" "I" ∈ wA := wA_in (wt4 11 rfl) rfl
theorem tw_733 : Cond.lays "RealmTilesModel" "RealmTilesModel" "next" "I" ∈ wA := wA_in (wt4 13 rfl) rfl
theorem tw_735 : Cond.lays "RealmTilesModel" "RealmTilesModel" "drawn" "I" ∈ wA := wA_in (wt4 15 rfl) rfl
theorem tw_737 : Cond.lays "RealmTilesModel" "RealmTilesModel" "aside" "I" ∈ wA := wA_in (wt4 17 rfl) rfl
theorem tw_739 : Cond.lays "RealmTilesModel" "RealmTilesModel" "laid" "Z" ∈ wA := wA_in (wt4 19 rfl) rfl
theorem tw_741 : Cond.lays "RealmTilesModel" "RealmTilesModel" "steps" "I" ∈ wA := wA_in (wt4 21 rfl) rfl
theorem tw_743 : Cond.laysFinal "RealmTilesModel" "RealmTilesModel" "step" "[I" ∈ wA := wA_in (wt4 23 rfl) rfl
theorem tw_745 : Cond.laysFinal "RealmTilesModel" "RealmTilesModel" "label" "[I" ∈ wA := wA_in (wt4 25 rfl) rfl
theorem tw_747 : Cond.lays "RealmTilesModel" "RealmTilesModel" "labelled" "Z" ∈ wA := wA_in (wt4 27 rfl) rfl
theorem tw_749 : Cond.laysFinal "RealmTilesModel" "RealmTilesModel" "copies" "[I" ∈ wA := wA_in (wt4 29 rfl) rfl
theorem tw_751 : Cond.laysFinal "RealmTilesModel" "RealmTilesModel" "finals" "[I" ∈ wA := wA_in (wt4 31 rfl) rfl
theorem tw_753 : Cond.laysFinal "RealmTilesModel" "RealmTilesModel" "bestFinals" "[I" ∈ wA := wA_in (wt4 33 rfl) rfl
theorem tw_755 : Cond.lays "RealmTilesModel" "RealmTilesModel" "positions" "I" ∈ wA := wA_in (wt4 35 rfl) rfl
theorem tw_757 : Cond.lays "RealmTilesModel" "RealmTilesModel" "found" "Z" ∈ wA := wA_in (wt4 37 rfl) rfl
theorem tw_759 : Cond.laysFinal "RealmTilesModel" "RealmTilesModel" "line" "[I" ∈ wA := wA_in (wt4 39 rfl) rfl
theorem tw_761 : Cond.laysFinal "RealmTilesModel" "RealmTilesModel" "lineNow" "[I" ∈ wA := wA_in (wt4 41 rfl) rfl
theorem tw_769 : Cond.methodLink "RealmTilesModel" 94 yX7_isType ∈ wA := wA_in (wt4 49 rfl) rfl
theorem tw_770 : Cond.static yX7_isType ∈ wA := wA_in (wt4 50 rfl) rfl
theorem tw_771 : Cond.code yX7_isType prog_9_method_6_code 13 (some .boolean) ∈ wA := wA_in (wt4 51 rfl) rfl
theorem tw_772 : Cond.constantLong "RealmTilesModel" 75 (255) ∈ wA := wA_in (wt4 52 rfl) rfl
theorem tw_773 : Cond.methodLink "RealmTilesModel" 86 yX7_isKind ∈ wA := wA_in (wt4 53 rfl) rfl
theorem tw_774 : Cond.static yX7_isKind ∈ wA := wA_in (wt4 54 rfl) rfl
theorem tw_775 : Cond.code yX7_isKind prog_9_method_2_code 1 (some .boolean) ∈ wA := wA_in (wt4 55 rfl) rfl
theorem tw_776 : Cond.methodLink "RealmTilesModel" 83 yX7_kindIn ∈ wA := wA_in (wt4 56 rfl) rfl
theorem tw_777 : Cond.static yX7_kindIn ∈ wA := wA_in (wt4 57 rfl) rfl
theorem tw_778 : Cond.code yX7_kindIn prog_9_method_3_code 3 (some .int) ∈ wA := wA_in (wt4 58 rfl) rfl
theorem tw_779 : Cond.methodLink "RealmTilesModel" 79 yX7_partIn ∈ wA := wA_in (wt4 59 rfl) rfl
theorem tw_780 : Cond.static yX7_partIn ∈ wA := wA_in (wt4 60 rfl) rfl
theorem tw_781 : Cond.code yX7_partIn prog_9_method_4_code 3 (some .int) ∈ wA := wA_in (wt4 61 rfl) rfl
theorem tw_782 : Cond.constantLong "RealmTilesModel" 77 (15) ∈ wA := wA_in (wt4 62 rfl) rfl
theorem tw_783 : Cond.methodLink "RealmTilesModel" 90 yX7_isSide ∈ wA := wA_in (wt4 63 rfl) rfl
theorem tw_784 : Cond.static yX7_isSide ∈ wA := wA_in (wt4 64 rfl) rfl
theorem tw_785 : Cond.code yX7_isSide prog_9_method_5_code 9 (some .boolean) ∈ wA := wA_in (wt4 65 rfl) rfl
theorem tw_786 : Cond.constantLong "RealmTilesModel" 105 (9) ∈ wA := wA_in (wt4 66 rfl) rfl
theorem tw_795 : Cond.methodLink "RealmTilesModel" 169 yX7_begin ∈ wA := wA_in (wt4 75 rfl) rfl
theorem tw_797 : Cond.instanceMethod yX7_begin ∈ wA := wA_in (wt4 77 rfl) rfl
theorem tw_798 : Cond.code yX7_begin prog_9_method_18_code 2 none ∈ wA := wA_in (wt4 78 rfl) rfl
theorem tw_799 : Cond.methodLink "RealmTilesModel" 157 yX7_drawNext ∈ wA := wA_in (wt4 79 rfl) rfl
theorem tw_801 : Cond.instanceMethod yX7_drawNext ∈ wA := wA_in (wt4 81 rfl) rfl
theorem tw_802 : Cond.code yX7_drawNext prog_9_method_17_code 2 none ∈ wA := wA_in (wt4 82 rfl) rfl
theorem tw_803 : Cond.methodLink "RealmTilesModel" 142 yX7_fitting ∈ wA := wA_in (wt4 83 rfl) rfl
theorem tw_805 : Cond.instanceMethod yX7_fitting ∈ wA := wA_in (wt4 85 rfl) rfl
theorem tw_806 : Cond.code yX7_fitting prog_9_method_16_code 5 (some .int) ∈ wA := wA_in (wt4 86 rfl) rfl
theorem tw_807 : Cond.methodLink "RealmTilesModel" 135 yX7_fitsAt ∈ wA := wA_in (wt4 87 rfl) rfl
theorem tw_809 : Cond.instanceMethod yX7_fitsAt ∈ wA := wA_in (wt4 89 rfl) rfl
theorem tw_810 : Cond.code yX7_fitsAt prog_9_method_15_code 9 (some .boolean) ∈ wA := wA_in (wt4 90 rfl) rfl
theorem tw_811 : Cond.methodLink "RealmTilesModel" 110 yX7_isPlace ∈ wA := wA_in (wt4 91 rfl) rfl
theorem tw_812 : Cond.static yX7_isPlace ∈ wA := wA_in (wt4 92 rfl) rfl
theorem tw_813 : Cond.code yX7_isPlace prog_9_method_9_code 2 (some .boolean) ∈ wA := wA_in (wt4 93 rfl) rfl
theorem tw_814 : Cond.methodLink "RealmTilesModel" 114 yX7_tileAt ∈ wA := wA_in (wt4 94 rfl) rfl
theorem tw_816 : Cond.instanceMethod yX7_tileAt ∈ wA := wA_in (wt4 96 rfl) rfl
theorem tw_817 : Cond.code yX7_tileAt prog_9_method_10_code 3 (some .int) ∈ wA := wA_in (wt4 97 rfl) rfl
theorem tw_818 : Cond.methodLink "RealmTilesModel" 125 yX7_beside ∈ wA := wA_in (wt4 98 rfl) rfl
theorem tw_820 : Cond.instanceMethod yX7_beside ∈ wA := wA_in (wt4 100 rfl) rfl
theorem tw_821 : Cond.code yX7_beside prog_9_method_12_code 5 (some .int) ∈ wA := wA_in (wt4 101 rfl) rfl
theorem tw_822 : Cond.methodLink "RealmTilesModel" 128 yX7_opposite ∈ wA := wA_in (wt4 102 rfl) rfl
theorem tw_823 : Cond.static yX7_opposite ∈ wA := wA_in (wt4 103 rfl) rfl
theorem tw_824 : Cond.code yX7_opposite prog_9_method_13_code 1 (some .int) ∈ wA := wA_in (wt4 104 rfl) rfl
theorem tw_825 : Cond.methodLink "RealmTilesModel" 132 yX7_kindAt ∈ wA := wA_in (wt4 105 rfl) rfl
theorem tw_827 : Cond.instanceMethod yX7_kindAt ∈ wA := wA_in (wt4 107 rfl) rfl
theorem tw_828 : Cond.code yX7_kindAt prog_9_method_14_code 3 (some .int) ∈ wA := wA_in (wt4 108 rfl) rfl
theorem tw_829 : Cond.methodLink "RealmTilesModel" 118 yX7_partAt ∈ wA := wA_in (wt4 109 rfl) rfl
theorem tw_831 : Cond.instanceMethod yX7_partAt ∈ wA := wA_in (wt4 111 rfl) rfl
theorem tw_832 : Cond.code yX7_partAt prog_9_method_11_code 4 (some .int) ∈ wA := wA_in (wt4 112 rfl) rfl
theorem tw_849 : Cond.methodLink "RealmTilesModel" 184 yX7_isToLay ∈ wA := wA_in (wt4 129 rfl) rfl
theorem tw_851 : Cond.instanceMethod yX7_isToLay ∈ wA := wA_in (wt4 131 rfl) rfl
theorem tw_852 : Cond.code yX7_isToLay prog_9_method_32_code 1 (some .boolean) ∈ wA := wA_in (wt4 132 rfl) rfl
theorem tw_857 : Cond.methodLink "RealmTilesModel" 209 yX7_lay ∈ wA := wA_in (wt4 137 rfl) rfl
theorem tw_859 : Cond.instanceMethod yX7_lay ∈ wA := wA_in (wt4 139 rfl) rfl
theorem tw_860 : Cond.code yX7_lay prog_9_method_35_code 4 none ∈ wA := wA_in (wt4 140 rfl) rfl
theorem tw_861 : Cond.methodLink "RealmTilesModel" 213 yX7_note ∈ wA := wA_in (wt4 141 rfl) rfl
theorem tw_863 : Cond.instanceMethod yX7_note ∈ wA := wA_in (wt4 143 rfl) rfl
theorem tw_864 : Cond.code yX7_note prog_9_method_39_code 5 none ∈ wA := wA_in (wt4 144 rfl) rfl
theorem tw_869 : Cond.methodLink "RealmTilesModel" 217 yX7_mayFollow ∈ wA := wA_in (wt4 149 rfl) rfl
theorem tw_871 : Cond.instanceMethod yX7_mayFollow ∈ wA := wA_in (wt4 151 rfl) rfl
theorem tw_872 : Cond.code yX7_mayFollow prog_9_method_36_code 3 (some .boolean) ∈ wA := wA_in (wt4 152 rfl) rfl
theorem tw_873 : Cond.methodLink "RealmTilesModel" 172 yX7_kindOfPiece ∈ wA := wA_in (wt4 153 rfl) rfl
theorem tw_875 : Cond.instanceMethod yX7_kindOfPiece ∈ wA := wA_in (wt4 155 rfl) rfl
theorem tw_876 : Cond.code yX7_kindOfPiece prog_9_method_21_code 2 (some .int) ∈ wA := wA_in (wt4 156 rfl) rfl
theorem tw_877 : Cond.methodLink "RealmTilesModel" 188 yX7_giveLabels ∈ wA := wA_in (wt4 157 rfl) rfl
theorem tw_879 : Cond.instanceMethod yX7_giveLabels ∈ wA := wA_in (wt4 159 rfl) rfl
theorem tw_880 : Cond.code yX7_giveLabels prog_9_method_22_code 7 none ∈ wA := wA_in (wt4 160 rfl) rfl
theorem tw_881 : Cond.methodLink "RealmTilesModel" 191 yX7_hasFollowers ∈ wA := wA_in (wt4 161 rfl) rfl
theorem tw_883 : Cond.instanceMethod yX7_hasFollowers ∈ wA := wA_in (wt4 163 rfl) rfl
theorem tw_884 : Cond.code yX7_hasFollowers prog_9_method_29_code 4 (some .boolean) ∈ wA := wA_in (wt4 164 rfl) rfl
theorem tw_885 : Cond.methodLink "RealmTilesModel" 220 yX7_put ∈ wA := wA_in (wt4 165 rfl) rfl
theorem tw_887 : Cond.instanceMethod yX7_put ∈ wA := wA_in (wt4 167 rfl) rfl
theorem tw_888 : Cond.code yX7_put prog_9_method_38_code 7 (some .int) ∈ wA := wA_in (wt4 168 rfl) rfl
theorem tw_889 : Cond.methodLink "RealmTilesModel" 206 yX7_score ∈ wA := wA_in (wt4 169 rfl) rfl
theorem tw_891 : Cond.instanceMethod yX7_score ∈ wA := wA_in (wt4 171 rfl) rfl
theorem tw_892 : Cond.code yX7_score prog_9_method_37_code 6 (some .int) ∈ wA := wA_in (wt4 172 rfl) rfl
theorem tw_893 : Cond.methodLink "RealmTilesModel" 194 yX7_isFinished ∈ wA := wA_in (wt4 173 rfl) rfl
theorem tw_895 : Cond.instanceMethod yX7_isFinished ∈ wA := wA_in (wt4 175 rfl) rfl
theorem tw_896 : Cond.code yX7_isFinished prog_9_method_27_code 3 (some .boolean) ∈ wA := wA_in (wt4 176 rfl) rfl
theorem tw_897 : Cond.methodLink "RealmTilesModel" 175 yX7_around ∈ wA := wA_in (wt4 177 rfl) rfl
theorem tw_899 : Cond.instanceMethod yX7_around ∈ wA := wA_in (wt4 179 rfl) rfl
theorem tw_900 : Cond.code yX7_around prog_9_method_26_code 4 (some .int) ∈ wA := wA_in (wt4 180 rfl) rfl
theorem tw_901 : Cond.methodLink "RealmTilesModel" 178 yX7_openOf ∈ wA := wA_in (wt4 181 rfl) rfl
theorem tw_903 : Cond.instanceMethod yX7_openOf ∈ wA := wA_in (wt4 183 rfl) rfl
theorem tw_904 : Cond.code yX7_openOf prog_9_method_25_code 6 (some .int) ∈ wA := wA_in (wt4 184 rfl) rfl
theorem tw_905 : Cond.methodLink "RealmTilesModel" 197 yX7_tilesOf ∈ wA := wA_in (wt4 185 rfl) rfl
theorem tw_907 : Cond.instanceMethod yX7_tilesOf ∈ wA := wA_in (wt4 187 rfl) rfl
theorem tw_908 : Cond.code yX7_tilesOf prog_9_method_23_code 6 (some .int) ∈ wA := wA_in (wt4 188 rfl) rfl
theorem tw_909 : Cond.methodLink "RealmTilesModel" 200 yX7_shieldsOf ∈ wA := wA_in (wt4 189 rfl) rfl
theorem tw_911 : Cond.instanceMethod yX7_shieldsOf ∈ wA := wA_in (wt4 191 rfl) rfl
theorem tw_912 : Cond.code yX7_shieldsOf prog_9_method_24_code 4 (some .int) ∈ wA := wA_in (wt4 192 rfl) rfl
theorem tw_913 : Cond.methodLink "RealmTilesModel" 203 yX7_isFirst ∈ wA := wA_in (wt4 193 rfl) rfl
theorem tw_915 : Cond.instanceMethod yX7_isFirst ∈ wA := wA_in (wt4 195 rfl) rfl
theorem tw_916 : Cond.code yX7_isFirst prog_9_method_30_code 6 (some .boolean) ∈ wA := wA_in (wt4 196 rfl) rfl
theorem tw_917 : Cond.methodLink "RealmTilesModel" 181 yX7_followersOf ∈ wA := wA_in (wt4 197 rfl) rfl
theorem tw_919 : Cond.instanceMethod yX7_followersOf ∈ wA := wA_in (wt4 199 rfl) rfl
theorem tw_920 : Cond.code yX7_followersOf prog_9_method_28_code 5 (some .int) ∈ wA := wA_in (wt4 200 rfl) rfl
theorem tw_937 : Cond.methodLink "RealmTilesModel" 229 yX7_count ∈ wA := wA_in (wt4 217 rfl) rfl
theorem tw_939 : Cond.instanceMethod yX7_count ∈ wA := wA_in (wt4 219 rfl) rfl
theorem tw_940 : Cond.code yX7_count prog_9_method_47_code 4 none ∈ wA := wA_in (wt4 220 rfl) rfl
theorem tw_941 : Cond.methodLink "RealmTilesModel" 226 yX7_finalWorth ∈ wA := wA_in (wt4 221 rfl) rfl
theorem tw_943 : Cond.instanceMethod yX7_finalWorth ∈ wA := wA_in (wt4 223 rfl) rfl
theorem tw_944 : Cond.code yX7_finalWorth prog_9_method_46_code 3 (some .int) ∈ wA := wA_in (wt4 224 rfl) rfl
theorem tw_945 : Cond.methodLink "RealmTilesModel" 223 yX7_citiesAt ∈ wA := wA_in (wt4 225 rfl) rfl
theorem tw_947 : Cond.instanceMethod yX7_citiesAt ∈ wA := wA_in (wt4 227 rfl) rfl
theorem tw_948 : Cond.code yX7_citiesAt prog_9_method_45_code 7 (some .int) ∈ wA := wA_in (wt4 228 rfl) rfl
theorem tw_953 : Cond.constant "RealmTilesModel" 232 (-100000) ∈ wA := wA_in (wt4 233 rfl) rfl
theorem tw_954 : Cond.methodLink "RealmTilesModel" 233 yX7_copy ∈ wA := wA_in (wt4 234 rfl) rfl
theorem tw_956 : Cond.instanceMethod yX7_copy ∈ wA := wA_in (wt4 236 rfl) rfl
theorem tw_957 : Cond.code yX7_copy prog_9_method_49_code 4 none ∈ wA := wA_in (wt4 237 rfl) rfl
theorem tw_958 : Cond.methodLink "RealmTilesModel" 247 yX7_reply ∈ wA := wA_in (wt4 238 rfl) rfl
theorem tw_960 : Cond.instanceMethod yX7_reply ∈ wA := wA_in (wt5 0 rfl) rfl
theorem tw_961 : Cond.code yX7_reply prog_9_method_52_code 9 none ∈ wA := wA_in (wt5 1 rfl) rfl
theorem tw_962 : Cond.methodLink "RealmTilesModel" 240 yX7_ahead ∈ wA := wA_in (wt5 2 rfl) rfl
theorem tw_964 : Cond.instanceMethod yX7_ahead ∈ wA := wA_in (wt5 4 rfl) rfl
theorem tw_965 : Cond.code yX7_ahead prog_9_method_51_code 5 (some .int) ∈ wA := wA_in (wt5 5 rfl) rfl
theorem tw_966 : Cond.methodLink "RealmTilesModel" 244 yX7_restore ∈ wA := wA_in (wt5 6 rfl) rfl
theorem tw_968 : Cond.instanceMethod yX7_restore ∈ wA := wA_in (wt5 8 rfl) rfl
theorem tw_969 : Cond.code yX7_restore prog_9_method_50_code 4 none ∈ wA := wA_in (wt5 9 rfl) rfl
theorem tn_28 : Cond.fieldLinkNest "RealmTiles$Table" 116 "RealmTiles$Kit" "partAt" "[I" "RealmTiles" ∈ wN := wN_in (wt1 28 rfl) rfl
theorem tn_30 : Cond.fieldLinkNest "RealmTiles$Table" 60 "RealmTiles$Kit" "sideKind" "[I" "RealmTiles" ∈ wN := wN_in (wt1 30 rfl) rfl
theorem tn_32 : Cond.fieldLinkNest "RealmTiles$Table" 119 "RealmTiles$Kit" "kind" "[I" "RealmTiles" ∈ wN := wN_in (wt1 32 rfl) rfl
theorem tn_34 : Cond.fieldLinkNest "RealmTiles$Table" 76 "RealmTiles$Kit" "shields" "[I" "RealmTiles" ∈ wN := wN_in (wt1 34 rfl) rfl
theorem tn_36 : Cond.fieldLinkNest "RealmTiles$Table" 146 "RealmTiles$Kit" "touched" "[I" "RealmTiles" ∈ wN := wN_in (wt1 36 rfl) rfl
theorem tn_38 : Cond.fieldLinkNest "RealmTiles$Table" 79 "RealmTiles$Kit" "slotCount" "[I" "RealmTiles" ∈ wN := wN_in (wt1 38 rfl) rfl
theorem tn_40 : Cond.fieldLinkNest "RealmTiles$Table" 128 "RealmTiles$Kit" "cloister" "[I" "RealmTiles" ∈ wN := wN_in (wt1 40 rfl) rfl
theorem tn_42 : Cond.fieldLinkNest "RealmTiles$Match" 142 "RealmTiles$Kit" "list" "[I" "RealmTiles" ∈ wN := wN_in (wt1 42 rfl) rfl
theorem tn_43 : Cond.fieldLinkNest "RealmTiles" 51 "RealmTiles$Kit" "types" "I" "RealmTiles" ∈ wN := wN_in (wt1 43 rfl) rfl
theorem tn_45 : Cond.fieldLinkNest "RealmTiles" 59 "RealmTiles$Kit" "listed" "I" "RealmTiles" ∈ wN := wN_in (wt1 45 rfl) rfl
theorem tn_46 : Cond.fieldLinkNest "RealmTiles$Match" 137 "RealmTiles$Kit" "listed" "I" "RealmTiles" ∈ wN := wN_in (wt1 46 rfl) rfl
theorem tn_83 : Cond.fieldLinkNest "RealmTiles$Table" 125 "RealmTiles$Regions" "up" "[I" "RealmTiles" ∈ wN := wN_in (wt1 83 rfl) rfl
theorem tn_84 : Cond.fieldLinkNest "RealmTiles$Match" 164 "RealmTiles$Regions" "up" "[I" "RealmTiles" ∈ wN := wN_in (wt1 84 rfl) rfl
theorem tn_86 : Cond.fieldLinkNest "RealmTiles" 148 "RealmTiles$Regions" "tileBits" "[I" "RealmTiles" ∈ wN := wN_in (wt1 86 rfl) rfl
theorem tn_87 : Cond.fieldLinkNest "RealmTiles$Table" 131 "RealmTiles$Regions" "tileBits" "[I" "RealmTiles" ∈ wN := wN_in (wt1 87 rfl) rfl
theorem tn_89 : Cond.fieldLinkNest "RealmTiles" 156 "RealmTiles$Regions" "shields" "[I" "RealmTiles" ∈ wN := wN_in (wt1 89 rfl) rfl
theorem tn_90 : Cond.fieldLinkNest "RealmTiles$Table" 139 "RealmTiles$Regions" "shields" "[I" "RealmTiles" ∈ wN := wN_in (wt1 90 rfl) rfl
theorem tn_92 : Cond.fieldLinkNest "RealmTiles$Table" 100 "RealmTiles$Regions" "open" "[I" "RealmTiles" ∈ wN := wN_in (wt1 92 rfl) rfl
theorem tn_93 : Cond.fieldLinkNest "RealmTiles" 159 "RealmTiles$Regions" "open" "[I" "RealmTiles" ∈ wN := wN_in (wt1 93 rfl) rfl
theorem tn_95 : Cond.fieldLinkNest "RealmTiles$Match" 91 "RealmTiles$Regions" "men" "[I" "RealmTiles" ∈ wN := wN_in (wt1 95 rfl) rfl
theorem tn_96 : Cond.fieldLinkNest "RealmTiles" 165 "RealmTiles$Regions" "men" "[I" "RealmTiles" ∈ wN := wN_in (wt1 96 rfl) rfl
theorem tn_100 : Cond.fieldLinkNest "RealmTiles$Table" 73 "RealmTiles$Regions" "joins" "I" "RealmTiles" ∈ wN := wN_in (wt1 100 rfl) rfl
theorem tn_104 : Cond.fieldLinkNest "RealmTiles$Match" 157 "RealmTiles$Regions" "changes" "I" "RealmTiles" ∈ wN := wN_in (wt1 104 rfl) rfl
theorem tn_133 : Cond.fieldLinkNest "RealmTiles$Match" 87 "RealmTiles$Table" "regions" "LRealmTiles$Regions;" "RealmTiles" ∈ wN := wN_in (wt1 133 rfl) rfl
theorem tn_134 : Cond.fieldLinkNest "RealmTiles" 136 "RealmTiles$Table" "regions" "LRealmTiles$Regions;" "RealmTiles" ∈ wN := wN_in (wt1 134 rfl) rfl
theorem tn_136 : Cond.fieldLinkNest "RealmTiles" 129 "RealmTiles$Table" "at" "[I" "RealmTiles" ∈ wN := wN_in (wt1 136 rfl) rfl
theorem tn_140 : Cond.fieldLinkNest "RealmTiles$Match" 117 "RealmTiles$Table" "cellOf" "[I" "RealmTiles" ∈ wN := wN_in (wt1 140 rfl) rfl
theorem tn_142 : Cond.fieldLinkNest "RealmTiles$Match" 148 "RealmTiles$Table" "typeOf" "[I" "RealmTiles" ∈ wN := wN_in (wt1 142 rfl) rfl
theorem tn_146 : Cond.fieldLinkNest "RealmTiles$Match" 74 "RealmTiles$Table" "tiles" "I" "RealmTiles" ∈ wN := wN_in (wt1 146 rfl) rfl
theorem tn_147 : Cond.fieldLinkNest "RealmTiles" 84 "RealmTiles$Table" "tiles" "I" "RealmTiles" ∈ wN := wN_in (wt1 147 rfl) rfl
theorem tn_184 : Cond.fieldLinkNest "RealmTiles" 47 "RealmTiles$Match" "on" "Z" "RealmTiles" ∈ wN := wN_in (wt1 184 rfl) rfl
theorem tn_186 : Cond.fieldLinkNest "RealmTiles" 93 "RealmTiles$Match" "laid" "Z" "RealmTiles" ∈ wN := wN_in (wt1 186 rfl) rfl
theorem tn_188 : Cond.fieldLinkNest "RealmTiles$Seeker" 80 "RealmTiles$Match" "players" "I" "RealmTiles" ∈ wN := wN_in (wt1 188 rfl) rfl
theorem tn_189 : Cond.fieldLinkNest "RealmTiles" 171 "RealmTiles$Match" "players" "I" "RealmTiles" ∈ wN := wN_in (wt1 189 rfl) rfl
theorem tn_190 : Cond.fieldLinkNest "RealmTiles$Seeker" 36 "RealmTiles$Match" "mover" "I" "RealmTiles" ∈ wN := wN_in (wt1 190 rfl) rfl
theorem tn_193 : Cond.fieldLinkNest "RealmTiles$Seeker" 70 "RealmTiles$Match" "inHand" "I" "RealmTiles" ∈ wN := wN_in (wt1 193 rfl) rfl
theorem tn_194 : Cond.fieldLinkNest "RealmTiles" 77 "RealmTiles$Match" "inHand" "I" "RealmTiles" ∈ wN := wN_in (wt1 194 rfl) rfl
theorem tn_196 : Cond.fieldLinkNest "RealmTiles" 96 "RealmTiles$Match" "next" "I" "RealmTiles" ∈ wN := wN_in (wt1 196 rfl) rfl
theorem tn_198 : Cond.fieldLinkNest "RealmTiles" 87 "RealmTiles$Match" "aside" "I" "RealmTiles" ∈ wN := wN_in (wt1 198 rfl) rfl
theorem tn_200 : Cond.fieldLinkNest "RealmTiles" 174 "RealmTiles$Match" "points" "[I" "RealmTiles" ∈ wN := wN_in (wt1 200 rfl) rfl
theorem tn_202 : Cond.fieldLinkNest "RealmTiles" 177 "RealmTiles$Match" "left" "[I" "RealmTiles" ∈ wN := wN_in (wt1 202 rfl) rfl
theorem tn_204 : Cond.fieldLinkNest "RealmTiles$Seeker" 76 "RealmTiles$Match" "finals" "[I" "RealmTiles" ∈ wN := wN_in (wt1 204 rfl) rfl
theorem tn_205 : Cond.fieldLinkNest "RealmTiles" 183 "RealmTiles$Match" "finals" "[I" "RealmTiles" ∈ wN := wN_in (wt1 205 rfl) rfl
theorem tn_249 : Cond.fieldLinkNest "RealmTiles$Seeker" 100 "RealmTiles$Level" "spot" "I" "RealmTiles" ∈ wN := wN_in (wt2 9 rfl) rfl
theorem tn_251 : Cond.fieldLinkNest "RealmTiles$Seeker" 92 "RealmTiles$Level" "part" "I" "RealmTiles" ∈ wN := wN_in (wt2 11 rfl) rfl
theorem tn_253 : Cond.fieldLinkNest "RealmTiles$Seeker" 88 "RealmTiles$Level" "laid" "Z" "RealmTiles" ∈ wN := wN_in (wt2 13 rfl) rfl
theorem tn_256 : Cond.fieldLinkNest "RealmTiles$Seeker" 66 "RealmTiles$Level" "value" "I" "RealmTiles" ∈ wN := wN_in (wt2 16 rfl) rfl
theorem tn_258 : Cond.fieldLinkNest "RealmTiles$Seeker" 57 "RealmTiles$Level" "bestSpot" "I" "RealmTiles" ∈ wN := wN_in (wt2 18 rfl) rfl
theorem tn_260 : Cond.fieldLinkNest "RealmTiles$Seeker" 60 "RealmTiles$Level" "bestPart" "I" "RealmTiles" ∈ wN := wN_in (wt2 20 rfl) rfl
theorem tn_262 : Cond.fieldLinkNest "RealmTiles$Seeker" 87 "RealmTiles$Level" "finals" "[I" "RealmTiles" ∈ wN := wN_in (wt2 22 rfl) rfl
theorem tn_286 : Cond.fieldLinkNest "RealmTiles" 192 "RealmTiles$Seeker" "spot" "I" "RealmTiles" ∈ wN := wN_in (wt2 46 rfl) rfl
theorem tn_288 : Cond.fieldLinkNest "RealmTiles" 195 "RealmTiles$Seeker" "part" "I" "RealmTiles" ∈ wN := wN_in (wt2 48 rfl) rfl
theorem tn_290 : Cond.fieldLinkNest "RealmTiles" 189 "RealmTiles$Seeker" "value" "I" "RealmTiles" ∈ wN := wN_in (wt2 50 rfl) rfl
theorem tn_392 : Cond.fieldLinkNest "RealmTiles$Table" 57 "RealmTiles" "SIDE_STEPS" "[I" "RealmTiles" ∈ wN := wN_in (wt2 152 rfl) rfl
theorem tn_409 : Cond.fieldLinkNest "RealmTiles$Table" 93 "RealmTiles" "AROUND_STEPS" "[I" "RealmTiles" ∈ wN := wN_in (wt2 169 rfl) rfl
theorem tn_524 : Cond.methodLinkNest "RealmTiles$Match" 102 yX6_oneMan "RealmTiles" ∈ wN := wN_in (wt3 44 rfl) rfl
theorem tn_554 : Cond.methodLinkNest "RealmTiles$Match" 130 yX6_mostMen "RealmTiles" ∈ wN := wN_in (wt3 74 rfl) rfl
theorem tn_561 : Cond.methodLinkNest "RealmTiles$Match" 133 yX6_menOf "RealmTiles" ∈ wN := wN_in (wt3 81 rfl) rfl
theorem tn_562 : Cond.fieldLinkNest "RealmTiles$Match" 114 "RealmTiles" "AROUND_STEPS" "[I" "RealmTiles" ∈ wN := wN_in (wt3 82 rfl) rfl
theorem ts_0 : Cond.selects "RealmTiles$Table" yX5_openSide yX5_openSide ∈ wA := wS_of 0 rfl rfl
theorem ts_1 : Cond.selects "RealmTiles$Table" yX5_pieceAt yX5_pieceAt ∈ wA := wS_of 1 rfl rfl
theorem ts_2 : Cond.selects "RealmTiles$Match" yX2_restore yX2_restore ∈ wA := wS_of 2 rfl rfl
theorem ts_3 : Cond.selects "RealmTiles$Match" yX2_drawNext yX2_drawNext ∈ wA := wS_of 3 rfl rfl
theorem ts_4 : Cond.selects "RealmTiles$Table" yX5_sidesMatch yX5_sidesMatch ∈ wA := wS_of 4 rfl rfl
theorem ts_5 : Cond.selects "RealmTiles$Table" yX5_joinSide yX5_joinSide ∈ wA := wS_of 5 rfl rfl
theorem ts_6 : Cond.selects "RealmTiles$Match" yX2_save yX2_save ∈ wA := wS_of 6 rfl rfl
theorem ts_7 : Cond.selects "RealmTiles$Match" yX2_settle yX2_settle ∈ wA := wS_of 7 rfl rfl
theorem ts_8 : Cond.selects "RealmTiles$Match" yX2_pay yX2_pay ∈ wA := wS_of 8 rfl rfl
theorem ts_9 : Cond.selects "RealmTiles$Table" yX5_finishedCitiesAt yX5_finishedCitiesAt ∈ wA := wS_of 9 rfl rfl
theorem ts_10 : Cond.selects "RealmTiles$Table" yX5_newFinishedCities yX5_newFinishedCities ∈ wA := wS_of 10 rfl rfl
theorem ts_11 : Cond.selects "RealmTiles$Match" yX2_addFinals yX2_addFinals ∈ wA := wS_of 11 rfl rfl
theorem ts_12 : Cond.selects "RealmTiles$Seeker" yX4_makeNextLine yX4_makeNextLine ∈ wA := wS_of 12 rfl rfl
theorem ts_13 : Cond.selects "RealmTiles$Seeker" yX4_lookBehindLine yX4_lookBehindLine ∈ wA := wS_of 13 rfl rfl
theorem ts_14 : Cond.selects "RealmTiles$Seeker" yX4_endLine yX4_endLine ∈ wA := wS_of 14 rfl rfl
theorem ts_15 : Cond.selects "RealmTilesModel" yX7_begin yX7_begin ∈ wA := wS_of 15 rfl rfl
theorem ts_16 : Cond.selects "RealmTilesModel" yX7_drawNext yX7_drawNext ∈ wA := wS_of 16 rfl rfl
theorem ts_17 : Cond.selects "RealmTilesModel" yX7_fitting yX7_fitting ∈ wA := wS_of 17 rfl rfl
theorem ts_18 : Cond.selects "RealmTilesModel" yX7_fitsAt yX7_fitsAt ∈ wA := wS_of 18 rfl rfl
theorem ts_19 : Cond.selects "RealmTilesModel" yX7_tileAt yX7_tileAt ∈ wA := wS_of 19 rfl rfl
theorem ts_20 : Cond.selects "RealmTilesModel" yX7_beside yX7_beside ∈ wA := wS_of 20 rfl rfl
theorem ts_21 : Cond.selects "RealmTilesModel" yX7_kindAt yX7_kindAt ∈ wA := wS_of 21 rfl rfl
theorem ts_22 : Cond.selects "RealmTilesModel" yX7_partAt yX7_partAt ∈ wA := wS_of 22 rfl rfl
theorem ts_23 : Cond.selects "RealmTilesModel" yX7_isToLay yX7_isToLay ∈ wA := wS_of 23 rfl rfl
theorem ts_24 : Cond.selects "RealmTilesModel" yX7_lay yX7_lay ∈ wA := wS_of 24 rfl rfl
theorem ts_25 : Cond.selects "RealmTilesModel" yX7_note yX7_note ∈ wA := wS_of 25 rfl rfl
theorem ts_26 : Cond.selects "RealmTilesModel" yX7_mayFollow yX7_mayFollow ∈ wA := wS_of 26 rfl rfl
theorem ts_27 : Cond.selects "RealmTilesModel" yX7_kindOfPiece yX7_kindOfPiece ∈ wA := wS_of 27 rfl rfl
theorem ts_28 : Cond.selects "RealmTilesModel" yX7_giveLabels yX7_giveLabels ∈ wA := wS_of 28 rfl rfl
theorem ts_29 : Cond.selects "RealmTilesModel" yX7_hasFollowers yX7_hasFollowers ∈ wA := wS_of 29 rfl rfl
theorem ts_30 : Cond.selects "RealmTilesModel" yX7_put yX7_put ∈ wA := wS_of 30 rfl rfl
theorem ts_31 : Cond.selects "RealmTilesModel" yX7_score yX7_score ∈ wA := wS_of 31 rfl rfl
theorem ts_32 : Cond.selects "RealmTilesModel" yX7_isFinished yX7_isFinished ∈ wA := wS_of 32 rfl rfl
theorem ts_33 : Cond.selects "RealmTilesModel" yX7_around yX7_around ∈ wA := wS_of 33 rfl rfl
theorem ts_34 : Cond.selects "RealmTilesModel" yX7_openOf yX7_openOf ∈ wA := wS_of 34 rfl rfl
theorem ts_35 : Cond.selects "RealmTilesModel" yX7_tilesOf yX7_tilesOf ∈ wA := wS_of 35 rfl rfl
theorem ts_36 : Cond.selects "RealmTilesModel" yX7_shieldsOf yX7_shieldsOf ∈ wA := wS_of 36 rfl rfl
theorem ts_37 : Cond.selects "RealmTilesModel" yX7_isFirst yX7_isFirst ∈ wA := wS_of 37 rfl rfl
theorem ts_38 : Cond.selects "RealmTilesModel" yX7_followersOf yX7_followersOf ∈ wA := wS_of 38 rfl rfl
theorem ts_39 : Cond.selects "RealmTilesModel" yX7_count yX7_count ∈ wA := wS_of 39 rfl rfl
theorem ts_40 : Cond.selects "RealmTilesModel" yX7_finalWorth yX7_finalWorth ∈ wA := wS_of 40 rfl rfl
theorem ts_41 : Cond.selects "RealmTilesModel" yX7_citiesAt yX7_citiesAt ∈ wA := wS_of 41 rfl rfl
theorem ts_42 : Cond.selects "RealmTilesModel" yX7_copy yX7_copy ∈ wA := wS_of 42 rfl rfl
theorem ts_43 : Cond.selects "RealmTilesModel" yX7_reply yX7_reply ∈ wA := wS_of 43 rfl rfl
theorem ts_44 : Cond.selects "RealmTilesModel" yX7_ahead yX7_ahead ∈ wA := wS_of 44 rfl rfl
theorem ts_45 : Cond.selects "RealmTilesModel" yX7_restore yX7_restore ∈ wA := wS_of 45 rfl rfl
theorem inA_X0 : ∀ k, k < 10 → u_lay RX0 TX0 k ∈ wA := fun k hk => by
  match k, hk with
  | 0, _ => exact tw_48
  | 1, _ => exact tw_50
  | 2, _ => exact tw_52
  | 3, _ => exact tw_54
  | 4, _ => exact tw_56
  | 5, _ => exact tw_58
  | 6, _ => exact tw_60
  | 7, _ => exact tw_62
  | 8, _ => exact tw_64
  | 9, _ => exact tw_66
  | n + 10, h => omega
theorem inT_X0 {kw : Cond} : ∀ w ∈ u_ws RX0 TX0 10, w ∈ kw :: wA := fun w h => by
  obtain ⟨k, hk, rfl⟩ := List.mem_map.mp h
  exact .tail _ (inA_X0 k (List.mem_range.mp hk))
theorem inA_X1 : ∀ k, k < 9 → u_lay RX1 TX1 k ∈ wA := fun k hk => by
  match k, hk with
  | 0, _ => exact tw_263
  | 1, _ => exact tw_265
  | 2, _ => exact tw_267
  | 3, _ => exact tw_269
  | 4, _ => exact tw_271
  | 5, _ => exact tw_273
  | 6, _ => exact tw_275
  | 7, _ => exact tw_277
  | 8, _ => exact tw_279
  | n + 9, h => omega
theorem inT_X1 {kw : Cond} : ∀ w ∈ u_ws RX1 TX1 9, w ∈ kw :: wA := fun w h => by
  obtain ⟨k, hk, rfl⟩ := List.mem_map.mp h
  exact .tail _ (inA_X1 k (List.mem_range.mp hk))
theorem inA_X2 : ∀ k, k < 13 → u_lay RX2 TX2 k ∈ wA := fun k hk => by
  match k, hk with
  | 0, _ => exact tw_207
  | 1, _ => exact tw_209
  | 2, _ => exact tw_211
  | 3, _ => exact tw_213
  | 4, _ => exact tw_215
  | 5, _ => exact tw_217
  | 6, _ => exact tw_219
  | 7, _ => exact tw_221
  | 8, _ => exact tw_223
  | 9, _ => exact tw_225
  | 10, _ => exact tw_227
  | 11, _ => exact tw_229
  | 12, _ => exact tw_231
  | n + 13, h => omega
theorem inT_X2 {kw : Cond} : ∀ w ∈ u_ws RX2 TX2 13, w ∈ kw :: wA := fun w h => by
  obtain ⟨k, hk, rfl⟩ := List.mem_map.mp h
  exact .tail _ (inA_X2 k (List.mem_range.mp hk))
theorem inA_X3 : ∀ k, k < 11 → u_lay RX3 TX3 k ∈ wA := fun k hk => by
  match k, hk with
  | 0, _ => exact tw_105
  | 1, _ => exact tw_107
  | 2, _ => exact tw_109
  | 3, _ => exact tw_111
  | 4, _ => exact tw_113
  | 5, _ => exact tw_115
  | 6, _ => exact tw_117
  | 7, _ => exact tw_119
  | 8, _ => exact tw_121
  | 9, _ => exact tw_123
  | 10, _ => exact tw_125
  | n + 11, h => omega
theorem inT_X3 {kw : Cond} : ∀ w ∈ u_ws RX3 TX3 11, w ∈ kw :: wA := fun w h => by
  obtain ⟨k, hk, rfl⟩ := List.mem_map.mp h
  exact .tail _ (inA_X3 k (List.mem_range.mp hk))
theorem inA_X4 : ∀ k, k < 6 → u_lay RX4 TX4 k ∈ wA := fun k hk => by
  match k, hk with
  | 0, _ => exact tw_291
  | 1, _ => exact tw_293
  | 2, _ => exact tw_295
  | 3, _ => exact tw_297
  | 4, _ => exact tw_299
  | 5, _ => exact tw_301
  | n + 6, h => omega
theorem inT_X4 {kw : Cond} : ∀ w ∈ u_ws RX4 TX4 6, w ∈ kw :: wA := fun w h => by
  obtain ⟨k, hk, rfl⟩ := List.mem_map.mp h
  exact .tail _ (inA_X4 k (List.mem_range.mp hk))
theorem inA_X5 : ∀ k, k < 12 → u_lay RX5 TX5 k ∈ wA := fun k hk => by
  match k, hk with
  | 0, _ => exact tw_150
  | 1, _ => exact tw_152
  | 2, _ => exact tw_154
  | 3, _ => exact tw_156
  | 4, _ => exact tw_158
  | 5, _ => exact tw_160
  | 6, _ => exact tw_162
  | 7, _ => exact tw_164
  | 8, _ => exact tw_166
  | 9, _ => exact tw_168
  | 10, _ => exact tw_170
  | 11, _ => exact tw_172
  | n + 12, h => omega
theorem inT_X5 {kw : Cond} : ∀ w ∈ u_ws RX5 TX5 12, w ∈ kw :: wA := fun w h => by
  obtain ⟨k, hk, rfl⟩ := List.mem_map.mp h
  exact .tail _ (inA_X5 k (List.mem_range.mp hk))
theorem inA_X6 : ∀ k, k < 4 → u_lay RX6 TX6 k ∈ wA := fun k hk => by
  match k, hk with
  | 0, _ => exact tw_308
  | 1, _ => exact tw_310
  | 2, _ => exact tw_312
  | 3, _ => exact tw_314
  | n + 4, h => omega
theorem inT_X6 {kw : Cond} : ∀ w ∈ u_ws RX6 TX6 4, w ∈ kw :: wA := fun w h => by
  obtain ⟨k, hk, rfl⟩ := List.mem_map.mp h
  exact .tail _ (inA_X6 k (List.mem_range.mp hk))
theorem inA_X7 : ∀ k, k < 34 → u_lay RX7 TX7 k ∈ wA := fun k hk => by
  match k, hk with
  | 0, _ => exact tw_695
  | 1, _ => exact tw_697
  | 2, _ => exact tw_699
  | 3, _ => exact tw_701
  | 4, _ => exact tw_703
  | 5, _ => exact tw_705
  | 6, _ => exact tw_707
  | 7, _ => exact tw_709
  | 8, _ => exact tw_711
  | 9, _ => exact tw_713
  | 10, _ => exact tw_715
  | 11, _ => exact tw_717
  | 12, _ => exact tw_719
  | 13, _ => exact tw_721
  | 14, _ => exact tw_723
  | 15, _ => exact tw_725
  | 16, _ => exact tw_727
  | 17, _ => exact tw_729
  | 18, _ => exact tw_731
  | 19, _ => exact tw_733
  | 20, _ => exact tw_735
  | 21, _ => exact tw_737
  | 22, _ => exact tw_739
  | 23, _ => exact tw_741
  | 24, _ => exact tw_743
  | 25, _ => exact tw_745
  | 26, _ => exact tw_747
  | 27, _ => exact tw_749
  | 28, _ => exact tw_751
  | 29, _ => exact tw_753
  | 30, _ => exact tw_755
  | 31, _ => exact tw_757
  | 32, _ => exact tw_759
  | 33, _ => exact tw_761
  | n + 34, h => omega
theorem inT_X7 {kw : Cond} : ∀ w ∈ u_ws RX7 TX7 34, w ∈ kw :: wA := fun w h => by
  obtain ⟨k, hk, rfl⟩ := List.mem_map.mp h
  exact .tail _ (inA_X7 k (List.mem_range.mp hk))
def rx_KV (y : MethodName) (cc : ByteArray) (maxL : Nat) (ret : Option FieldType) (n : Nat) : Prop := Cond.code y cc maxL ret ∈ wA ∧ Cond.initialized y.cls ∈ wA ∧ (y.cls ≠ "java/lang/invoke/MethodHandle" ∧ y.cls ≠ "java/lang/invoke/VarHandle" ∧ (parseMethodDescriptor y.desc).map (fun d => d.parameters.length) = some n) ∧ Cond.instanceMethod y ∈ wA ∧ Cond.selects y.cls y y ∈ wA
def rx_KS (y : MethodName) (cc : ByteArray) (maxL : Nat) (ret : Option FieldType) (n : Nat) : Prop := Cond.code y cc maxL ret ∈ wA ∧ Cond.initialized y.cls ∈ wA ∧ (y.cls ≠ "java/lang/invoke/MethodHandle" ∧ y.cls ≠ "java/lang/invoke/VarHandle" ∧ (parseMethodDescriptor y.desc).map (fun d => d.parameters.length) = some n) ∧ Cond.static y ∈ wA
theorem kfX0_byteIn : rx_KS yX0_byteIn cX0_byteIn 3 (some .int) 2 := ⟨tw_329, tw_2, ⟨by decide +kernel, by decide +kernel, by decide +kernel⟩, tw_328⟩
theorem kfX0_kindsAreRight : rx_KS yX0_kindsAreRight cX0_kindsAreRight 6 (some .boolean) 1 := ⟨tw_326, tw_2, ⟨by decide +kernel, by decide +kernel, by decide +kernel⟩, tw_325⟩
theorem kfX0_partIn : rx_KS yX0_partIn cX0_partIn 3 (some .int) 2 := ⟨tw_335, tw_2, ⟨by decide +kernel, by decide +kernel, by decide +kernel⟩, tw_334⟩
theorem kfX0_kindIn : rx_KS yX0_kindIn cX0_kindIn 3 (some .int) 2 := ⟨tw_338, tw_2, ⟨by decide +kernel, by decide +kernel, by decide +kernel⟩, tw_337⟩
theorem kfX0_hasSlots : rx_KS yX0_hasSlots cX0_hasSlots 1 (some .boolean) 1 := ⟨tw_341, tw_2, ⟨by decide +kernel, by decide +kernel, by decide +kernel⟩, tw_340⟩
theorem kfX0_slotsAreRight : rx_KS yX0_slotsAreRight cX0_slotsAreRight 7 (some .boolean) 2 := ⟨tw_332, tw_2, ⟨by decide +kernel, by decide +kernel, by decide +kernel⟩, tw_331⟩
theorem kfX0_sidesAreRight : rx_KS yX0_sidesAreRight cX0_sidesAreRight 9 (some .boolean) 2 := ⟨tw_344, tw_2, ⟨by decide +kernel, by decide +kernel, by decide +kernel⟩, tw_343⟩
theorem kfX0_touchesAreRight : rx_KS yX0_touchesAreRight cX0_touchesAreRight 7 (some .boolean) 2 := ⟨tw_347, tw_2, ⟨by decide +kernel, by decide +kernel, by decide +kernel⟩, tw_346⟩
theorem kfX0_isType : rx_KS yX0_isType cX0_isType 6 (some .boolean) 3 := ⟨tw_323, tw_2, ⟨by decide +kernel, by decide +kernel, by decide +kernel⟩, tw_322⟩
theorem kfX0_addType : rx_KV yX0_addType cX0_addType 10 (some .int) 3 := ⟨tw_351, tw_2, ⟨by decide +kernel, by decide +kernel, by decide +kernel⟩, tw_349, tw_350⟩
theorem kfX0_addToList : rx_KV yX0_addToList cX0_addToList 2 (some .int) 1 := ⟨tw_359, tw_2, ⟨by decide +kernel, by decide +kernel, by decide +kernel⟩, tw_357, tw_358⟩
theorem kfX4_forget : rx_KV yX4_forget cX4_forget 1 none 0 := ⟨tw_367, tw_7, ⟨by decide +kernel, by decide +kernel, by decide +kernel⟩, tw_365, tw_366⟩
theorem kfX3_takeMenBackTo : rx_KV yX3_takeMenBackTo cX3_takeMenBackTo 3 none 1 := ⟨tw_418, tw_4, ⟨by decide +kernel, by decide +kernel, by decide +kernel⟩, tw_416, tw_417⟩
theorem kfX2_restore : rx_KV yX2_restore cX2_restore 3 none 0 := ⟨tw_414, tw_6, ⟨by decide +kernel, by decide +kernel, by decide +kernel⟩, tw_413, ts_2⟩
theorem kfX5_pieceAt : rx_KV yX5_pieceAt cX5_pieceAt 4 (some .int) 2 := ⟨tw_401, tw_3, ⟨by decide +kernel, by decide +kernel, by decide +kernel⟩, tw_400, ts_1⟩
theorem kfX5_slotBeside : rx_KS yX5_slotBeside cX5_slotBeside 2 (some .int) 1 := ⟨tw_404, tw_3, ⟨by decide +kernel, by decide +kernel, by decide +kernel⟩, tw_403⟩
theorem kfX3_rootOf : rx_KV yX3_rootOf cX3_rootOf 4 (some .int) 1 := ⟨tw_408, tw_4, ⟨by decide +kernel, by decide +kernel, by decide +kernel⟩, tw_406, tw_407⟩
theorem kfX5_openSide : rx_KV yX5_openSide cX5_openSide 7 none 3 := ⟨tw_397, tw_3, ⟨by decide +kernel, by decide +kernel, by decide +kernel⟩, tw_396, ts_0⟩
theorem kfX3_partTo : rx_KV yX3_partTo cX3_partTo 5 none 1 := ⟨tw_391, tw_4, ⟨by decide +kernel, by decide +kernel, by decide +kernel⟩, tw_389, tw_390⟩
theorem kfX5_liftTile : rx_KV yX5_liftTile cX5_liftTile 4 none 0 := ⟨tw_387, tw_3, ⟨by decide +kernel, by decide +kernel, by decide +kernel⟩, tw_385, tw_386⟩
theorem kfX2_stepBack : rx_KV yX2_stepBack cX2_stepBack 1 none 0 := ⟨tw_383, tw_6, ⟨by decide +kernel, by decide +kernel, by decide +kernel⟩, tw_381, tw_382⟩
theorem kfJ7_fill : rx_KS yJ7_fill cJ7_fill 4 none 2 := ⟨tw_130, tw_5, ⟨by decide +kernel, by decide +kernel, by decide +kernel⟩, tw_129⟩
theorem kfX2_steps : rx_KV yX2_steps cX2_steps 1 (some .int) 0 := ⟨tw_379, tw_6, ⟨by decide +kernel, by decide +kernel, by decide +kernel⟩, tw_377, tw_378⟩
theorem kfX2_end : rx_KV yX2_end cX2_end 2 none 0 := ⟨tw_375, tw_6, ⟨by decide +kernel, by decide +kernel, by decide +kernel⟩, tw_373, tw_374⟩
theorem kfX5_sidesMatch : rx_KV yX5_sidesMatch cX5_sidesMatch 8 (some .boolean) 3 := ⟨tw_431, tw_3, ⟨by decide +kernel, by decide +kernel, by decide +kernel⟩, tw_430, ts_4⟩
theorem kfX5_nextFit : rx_KV yX5_nextFit cX5_nextFit 5 (some .int) 2 := ⟨tw_427, tw_3, ⟨by decide +kernel, by decide +kernel, by decide +kernel⟩, tw_425, tw_426⟩
theorem kfX2_drawNext : rx_KV yX2_drawNext cX2_drawNext 2 none 0 := ⟨tw_423, tw_6, ⟨by decide +kernel, by decide +kernel, by decide +kernel⟩, tw_422, ts_3⟩
theorem kfX2_begin : rx_KV yX2_begin cX2_begin 2 none 1 := ⟨tw_371, tw_6, ⟨by decide +kernel, by decide +kernel, by decide +kernel⟩, tw_369, tw_370⟩
theorem kfX0_forget : rx_KV yX0_forget cX0_forget 1 none 0 := ⟨tw_440, tw_2, ⟨by decide +kernel, by decide +kernel, by decide +kernel⟩, tw_438, tw_439⟩
theorem kfX2_toMove : rx_KV yX2_toMove cX2_toMove 1 (some .int) 0 := ⟨tw_452, tw_6, ⟨by decide +kernel, by decide +kernel, by decide +kernel⟩, tw_450, tw_451⟩
theorem kfX5_fitNumber : rx_KV yX5_fitNumber cX5_fitNumber 5 (some .int) 2 := ⟨tw_461, tw_3, ⟨by decide +kernel, by decide +kernel, by decide +kernel⟩, tw_459, tw_460⟩
theorem kfX6_tellSpot : rx_KS yX6_tellSpot cX6_tellSpot 2 (some .int) 2 := ⟨tw_465, tw_1, ⟨by decide +kernel, by decide +kernel, by decide +kernel⟩, tw_464⟩
theorem kfX6_isPlace : rx_KS yX6_isPlace cX6_isPlace 2 (some .boolean) 2 := ⟨tw_472, tw_1, ⟨by decide +kernel, by decide +kernel, by decide +kernel⟩, tw_471⟩
theorem kfX6_cellAt : rx_KS yX6_cellAt cX6_cellAt 2 (some .int) 2 := ⟨tw_475, tw_1, ⟨by decide +kernel, by decide +kernel, by decide +kernel⟩, tw_474⟩
theorem kfX3_found : rx_KV yX3_found cX3_found 4 none 3 := ⟨tw_488, tw_4, ⟨by decide +kernel, by decide +kernel, by decide +kernel⟩, tw_486, tw_487⟩
theorem kfX3_join : rx_KV yX3_join cX3_join 5 none 2 := ⟨tw_496, tw_4, ⟨by decide +kernel, by decide +kernel, by decide +kernel⟩, tw_494, tw_495⟩
theorem kfX5_joinSide : rx_KV yX5_joinSide cX5_joinSide 8 none 2 := ⟨tw_492, tw_3, ⟨by decide +kernel, by decide +kernel, by decide +kernel⟩, tw_491, ts_5⟩
theorem kfX5_addTile : rx_KV yX5_addTile cX5_addTile 7 none 2 := ⟨tw_484, tw_3, ⟨by decide +kernel, by decide +kernel, by decide +kernel⟩, tw_482, tw_483⟩
theorem kfX2_lay : rx_KV yX2_lay cX2_lay 2 none 1 := ⟨tw_480, tw_6, ⟨by decide +kernel, by decide +kernel, by decide +kernel⟩, tw_478, tw_479⟩
theorem kfX5_kindOf : rx_KV yX5_kindOf cX5_kindOf 2 (some .int) 1 := ⟨tw_514, tw_3, ⟨by decide +kernel, by decide +kernel, by decide +kernel⟩, tw_512, tw_513⟩
theorem kfX2_mayPut : rx_KV yX2_mayPut cX2_mayPut 3 (some .boolean) 1 := ⟨tw_510, tw_6, ⟨by decide +kernel, by decide +kernel, by decide +kernel⟩, tw_508, tw_509⟩
theorem kfX6_menOf : rx_KS yX6_menOf cX6_menOf 2 (some .int) 2 := ⟨tw_559, tw_1, ⟨by decide +kernel, by decide +kernel, by decide +kernel⟩, tw_558⟩
theorem kfX3_setMen : rx_KV yX3_setMen cX3_setMen 3 none 2 := ⟨tw_530, tw_4, ⟨by decide +kernel, by decide +kernel, by decide +kernel⟩, tw_528, tw_529⟩
theorem kfX5_isFinished : rx_KV yX5_isFinished cX5_isFinished 2 (some .boolean) 1 := ⟨tw_542, tw_3, ⟨by decide +kernel, by decide +kernel, by decide +kernel⟩, tw_540, tw_541⟩
theorem kfJ6_bitCount : rx_KS yJ6_bitCount cJ6_bitCount 1 (some .int) 1 := ⟨tw_550, tw_11, ⟨by decide +kernel, by decide +kernel, by decide +kernel⟩, tw_549⟩
theorem kfX5_finishedWorth : rx_KV yX5_finishedWorth cX5_finishedWorth 3 (some .int) 1 := ⟨tw_547, tw_3, ⟨by decide +kernel, by decide +kernel, by decide +kernel⟩, tw_545, tw_546⟩
theorem kfX6_mostMen : rx_KS yX6_mostMen cX6_mostMen 1 (some .int) 1 := ⟨tw_556, tw_1, ⟨by decide +kernel, by decide +kernel, by decide +kernel⟩, tw_555⟩
theorem kfX2_pay : rx_KV yX2_pay cX2_pay 7 (some .int) 1 := ⟨tw_538, tw_6, ⟨by decide +kernel, by decide +kernel, by decide +kernel⟩, tw_537, ts_8⟩
theorem kfX5_cloisterAt : rx_KV yX5_cloisterAt cX5_cloisterAt 3 (some .int) 1 := ⟨tw_566, tw_3, ⟨by decide +kernel, by decide +kernel, by decide +kernel⟩, tw_564, tw_565⟩
theorem kfX2_settle : rx_KV yX2_settle cX2_settle 5 (some .int) 0 := ⟨tw_534, tw_6, ⟨by decide +kernel, by decide +kernel, by decide +kernel⟩, tw_533, ts_7⟩
theorem kfX2_save : rx_KV yX2_save cX2_save 3 none 0 := ⟨tw_523, tw_6, ⟨by decide +kernel, by decide +kernel, by decide +kernel⟩, tw_522, ts_6⟩
theorem kfX6_oneMan : rx_KS yX6_oneMan cX6_oneMan 1 (some .int) 1 := ⟨tw_526, tw_1, ⟨by decide +kernel, by decide +kernel, by decide +kernel⟩, tw_525⟩
theorem kfX2_put : rx_KV yX2_put cX2_put 3 (some .int) 1 := ⟨tw_519, tw_6, ⟨by decide +kernel, by decide +kernel, by decide +kernel⟩, tw_517, tw_518⟩
theorem kfX5_isRegion : rx_KV yX5_isRegion cX5_isRegion 2 (some .boolean) 1 := ⟨tw_585, tw_3, ⟨by decide +kernel, by decide +kernel, by decide +kernel⟩, tw_583, tw_584⟩
theorem kfX5_newFinishedCities : rx_KV yX5_newFinishedCities cX5_newFinishedCities 6 (some .int) 2 := ⟨tw_607, tw_3, ⟨by decide +kernel, by decide +kernel, by decide +kernel⟩, tw_606, ts_10⟩
theorem kfX5_finishedCitiesAt : rx_KV yX5_finishedCitiesAt cX5_finishedCitiesAt 6 (some .int) 1 := ⟨tw_603, tw_3, ⟨by decide +kernel, by decide +kernel, by decide +kernel⟩, tw_602, ts_9⟩
theorem kfX5_finalWorth : rx_KV yX5_finalWorth cX5_finalWorth 3 (some .int) 1 := ⟨tw_599, tw_3, ⟨by decide +kernel, by decide +kernel, by decide +kernel⟩, tw_597, tw_598⟩
theorem kfX2_addFinals : rx_KV yX2_addFinals cX2_addFinals 5 none 2 := ⟨tw_611, tw_6, ⟨by decide +kernel, by decide +kernel, by decide +kernel⟩, tw_610, ts_11⟩
theorem kfX2_reckonFinals : rx_KV yX2_reckonFinals cX2_reckonFinals 3 none 0 := ⟨tw_595, tw_6, ⟨by decide +kernel, by decide +kernel, by decide +kernel⟩, tw_593, tw_594⟩
theorem kfX4_makeNextLine : rx_KV yX4_makeNextLine cX4_makeNextLine 3 (some .boolean) 1 := ⟨tw_628, tw_7, ⟨by decide +kernel, by decide +kernel, by decide +kernel⟩, tw_627, ts_12⟩
theorem kfX1_weigh : rx_KV yX1_weigh cX1_weigh 5 none 2 := ⟨tw_642, tw_8, ⟨by decide +kernel, by decide +kernel, by decide +kernel⟩, tw_640, tw_641⟩
theorem kfX4_endLine : rx_KV yX4_endLine cX4_endLine 2 none 1 := ⟨tw_650, tw_7, ⟨by decide +kernel, by decide +kernel, by decide +kernel⟩, tw_649, ts_14⟩
theorem kfX1_begin : rx_KV yX1_begin cX1_begin 2 none 1 := ⟨tw_624, tw_8, ⟨by decide +kernel, by decide +kernel, by decide +kernel⟩, tw_622, tw_623⟩
theorem kfX4_lookBehindLine : rx_KV yX4_lookBehindLine cX4_lookBehindLine 2 (some .int) 1 := ⟨tw_637, tw_7, ⟨by decide +kernel, by decide +kernel, by decide +kernel⟩, tw_636, ts_13⟩
theorem kfX4_seek : rx_KV yX4_seek cX4_seek 6 (some .boolean) 1 := ⟨tw_619, tw_7, ⟨by decide +kernel, by decide +kernel, by decide +kernel⟩, tw_617, tw_618⟩
theorem kfX7_partIn : rx_KS yX7_partIn cX7_partIn 3 (some .int) 2 := ⟨tw_781, tw_9, ⟨by decide +kernel, by decide +kernel, by decide +kernel⟩, tw_780⟩
theorem kfX7_kindIn : rx_KS yX7_kindIn cX7_kindIn 3 (some .int) 2 := ⟨tw_778, tw_9, ⟨by decide +kernel, by decide +kernel, by decide +kernel⟩, tw_777⟩
theorem kfX7_isKind : rx_KS yX7_isKind cX7_isKind 1 (some .boolean) 1 := ⟨tw_775, tw_9, ⟨by decide +kernel, by decide +kernel, by decide +kernel⟩, tw_774⟩
theorem kfX7_isSide : rx_KS yX7_isSide cX7_isSide 9 (some .boolean) 3 := ⟨tw_785, tw_9, ⟨by decide +kernel, by decide +kernel, by decide +kernel⟩, tw_784⟩
theorem kfX7_isType : rx_KS yX7_isType cX7_isType 13 (some .boolean) 3 := ⟨tw_771, tw_9, ⟨by decide +kernel, by decide +kernel, by decide +kernel⟩, tw_770⟩
theorem kfX7_opposite : rx_KS yX7_opposite cX7_opposite 1 (some .int) 1 := ⟨tw_824, tw_9, ⟨by decide +kernel, by decide +kernel, by decide +kernel⟩, tw_823⟩
theorem kfX7_partAt : rx_KV yX7_partAt cX7_partAt 4 (some .int) 3 := ⟨tw_832, tw_9, ⟨by decide +kernel, by decide +kernel, by decide +kernel⟩, tw_831, ts_22⟩
theorem kfX7_kindAt : rx_KV yX7_kindAt cX7_kindAt 3 (some .int) 2 := ⟨tw_828, tw_9, ⟨by decide +kernel, by decide +kernel, by decide +kernel⟩, tw_827, ts_21⟩
theorem kfX7_isPlace : rx_KS yX7_isPlace cX7_isPlace 2 (some .boolean) 2 := ⟨tw_813, tw_9, ⟨by decide +kernel, by decide +kernel, by decide +kernel⟩, tw_812⟩
theorem kfX7_tileAt : rx_KV yX7_tileAt cX7_tileAt 3 (some .int) 2 := ⟨tw_817, tw_9, ⟨by decide +kernel, by decide +kernel, by decide +kernel⟩, tw_816, ts_19⟩
theorem kfX7_beside : rx_KV yX7_beside cX7_beside 5 (some .int) 3 := ⟨tw_821, tw_9, ⟨by decide +kernel, by decide +kernel, by decide +kernel⟩, tw_820, ts_20⟩
theorem kfX7_fitsAt : rx_KV yX7_fitsAt cX7_fitsAt 9 (some .boolean) 4 := ⟨tw_810, tw_9, ⟨by decide +kernel, by decide +kernel, by decide +kernel⟩, tw_809, ts_18⟩
theorem kfX7_fitting : rx_KV yX7_fitting cX7_fitting 5 (some .int) 2 := ⟨tw_806, tw_9, ⟨by decide +kernel, by decide +kernel, by decide +kernel⟩, tw_805, ts_17⟩
theorem kfX7_drawNext : rx_KV yX7_drawNext cX7_drawNext 2 none 0 := ⟨tw_802, tw_9, ⟨by decide +kernel, by decide +kernel, by decide +kernel⟩, tw_801, ts_16⟩
theorem kfX7_begin : rx_KV yX7_begin cX7_begin 2 none 0 := ⟨tw_798, tw_9, ⟨by decide +kernel, by decide +kernel, by decide +kernel⟩, tw_797, ts_15⟩
theorem kfX7_isToLay : rx_KV yX7_isToLay cX7_isToLay 1 (some .boolean) 0 := ⟨tw_852, tw_9, ⟨by decide +kernel, by decide +kernel, by decide +kernel⟩, tw_851, ts_23⟩
theorem kfX7_lay : rx_KV yX7_lay cX7_lay 4 none 3 := ⟨tw_860, tw_9, ⟨by decide +kernel, by decide +kernel, by decide +kernel⟩, tw_859, ts_24⟩
theorem kfX7_note : rx_KV yX7_note cX7_note 5 none 4 := ⟨tw_864, tw_9, ⟨by decide +kernel, by decide +kernel, by decide +kernel⟩, tw_863, ts_25⟩
theorem kfX7_kindOfPiece : rx_KV yX7_kindOfPiece cX7_kindOfPiece 2 (some .int) 1 := ⟨tw_876, tw_9, ⟨by decide +kernel, by decide +kernel, by decide +kernel⟩, tw_875, ts_27⟩
theorem kfX7_followersOf : rx_KV yX7_followersOf cX7_followersOf 5 (some .int) 2 := ⟨tw_920, tw_9, ⟨by decide +kernel, by decide +kernel, by decide +kernel⟩, tw_919, ts_38⟩
theorem kfX7_isFirst : rx_KV yX7_isFirst cX7_isFirst 6 (some .boolean) 2 := ⟨tw_916, tw_9, ⟨by decide +kernel, by decide +kernel, by decide +kernel⟩, tw_915, ts_37⟩
theorem kfX7_openOf : rx_KV yX7_openOf cX7_openOf 6 (some .int) 1 := ⟨tw_904, tw_9, ⟨by decide +kernel, by decide +kernel, by decide +kernel⟩, tw_903, ts_34⟩
theorem kfX7_around : rx_KV yX7_around cX7_around 4 (some .int) 1 := ⟨tw_900, tw_9, ⟨by decide +kernel, by decide +kernel, by decide +kernel⟩, tw_899, ts_33⟩
theorem kfX7_isFinished : rx_KV yX7_isFinished cX7_isFinished 3 (some .boolean) 1 := ⟨tw_896, tw_9, ⟨by decide +kernel, by decide +kernel, by decide +kernel⟩, tw_895, ts_32⟩
theorem kfX7_hasFollowers : rx_KV yX7_hasFollowers cX7_hasFollowers 4 (some .boolean) 1 := ⟨tw_884, tw_9, ⟨by decide +kernel, by decide +kernel, by decide +kernel⟩, tw_883, ts_29⟩
theorem kfX7_tilesOf : rx_KV yX7_tilesOf cX7_tilesOf 6 (some .int) 1 := ⟨tw_908, tw_9, ⟨by decide +kernel, by decide +kernel, by decide +kernel⟩, tw_907, ts_35⟩
theorem kfX7_shieldsOf : rx_KV yX7_shieldsOf cX7_shieldsOf 4 (some .int) 1 := ⟨tw_912, tw_9, ⟨by decide +kernel, by decide +kernel, by decide +kernel⟩, tw_911, ts_36⟩
theorem kfX7_score : rx_KV yX7_score cX7_score 6 (some .int) 1 := ⟨tw_892, tw_9, ⟨by decide +kernel, by decide +kernel, by decide +kernel⟩, tw_891, ts_31⟩
theorem kfX7_giveLabels : rx_KV yX7_giveLabels cX7_giveLabels 7 none 0 := ⟨tw_880, tw_9, ⟨by decide +kernel, by decide +kernel, by decide +kernel⟩, tw_879, ts_28⟩
theorem kfX7_put : rx_KV yX7_put cX7_put 7 (some .int) 1 := ⟨tw_888, tw_9, ⟨by decide +kernel, by decide +kernel, by decide +kernel⟩, tw_887, ts_30⟩
theorem kfX7_mayFollow : rx_KV yX7_mayFollow cX7_mayFollow 3 (some .boolean) 1 := ⟨tw_872, tw_9, ⟨by decide +kernel, by decide +kernel, by decide +kernel⟩, tw_871, ts_26⟩
theorem kfX7_citiesAt : rx_KV yX7_citiesAt cX7_citiesAt 7 (some .int) 1 := ⟨tw_948, tw_9, ⟨by decide +kernel, by decide +kernel, by decide +kernel⟩, tw_947, ts_41⟩
theorem kfX7_finalWorth : rx_KV yX7_finalWorth cX7_finalWorth 3 (some .int) 1 := ⟨tw_944, tw_9, ⟨by decide +kernel, by decide +kernel, by decide +kernel⟩, tw_943, ts_40⟩
theorem kfX7_count : rx_KV yX7_count cX7_count 4 none 0 := ⟨tw_940, tw_9, ⟨by decide +kernel, by decide +kernel, by decide +kernel⟩, tw_939, ts_39⟩
theorem kfX7_restore : rx_KV yX7_restore cX7_restore 4 none 1 := ⟨tw_969, tw_9, ⟨by decide +kernel, by decide +kernel, by decide +kernel⟩, tw_968, ts_45⟩
theorem kfX7_ahead : rx_KV yX7_ahead cX7_ahead 5 (some .int) 2 := ⟨tw_965, tw_9, ⟨by decide +kernel, by decide +kernel, by decide +kernel⟩, tw_964, ts_44⟩
theorem kfX7_copy : rx_KV yX7_copy cX7_copy 4 none 1 := ⟨tw_957, tw_9, ⟨by decide +kernel, by decide +kernel, by decide +kernel⟩, tw_956, ts_42⟩
theorem kfX7_reply : rx_KV yX7_reply cX7_reply 9 none 1 := ⟨tw_961, tw_9, ⟨by decide +kernel, by decide +kernel, by decide +kernel⟩, tw_960, ts_43⟩
end
section
/-! The pure side's words: memory of a side (cell, place), loads, stores, calls as functions into Option; and rows of the machine over a world that is a function of such a memory. -/
abbrev Me : Type := Nat → Nat → Int32
abbrev Op : Type := Option (Int32 × Me)
def rx_st (M : Me) (c i : Nat) (x : Int32) : Me := fun d => if d = c then upd (M c) i x else M d
def rx_ld {β : Type} (M : Me) (c n : Nat) (i : Int32) (k : Int32 → Option β) : Option β := if i < 0 ∨ n ≤ i.toNatClampNeg then none else k (M c i.toNatClampNeg)
def rx_sv {β : Type} (M : Me) (c n : Nat) (i x : Int32) (k : Me → Option β) : Option β := if i < 0 ∨ n ≤ i.toNatClampNeg then none else k (rx_st M c i.toNatClampNeg x)
def rx_ls {β : Type} (xs : List Int32) (i : Int32) (k : Int32 → Option β) : Option β := if i < 0 ∨ xs.length ≤ i.toNatClampNeg then none else k (xs.getD i.toNatClampNeg 0)
def rx_vv {α β : Type} (e : α) (k : α → Option β) : Option β := k e
def rx_cl {β : Type} (o : Op) (k : Int32 → Me → Option β) : Option β := match o with
  | none => none
  | some q => k q.1 q.2
def rx_zb {β : Type} (r : Int32) (k : Option β) : Option β := if r = 0 ∨ r = 1 then k else none
def rx_lp0 {β : Type} (b : (Me → Option β) → Me → Option β) : Nat → Me → Option β
  | 0 => fun _ => none
  | n + 1 => b (rx_lp0 b n)
def rx_lp1 {β : Type} (b : (Int32 → Me → Option β) → Int32 → Me → Option β) : Nat → Int32 → Me → Option β
  | 0 => fun _ _ => none
  | n + 1 => b (rx_lp1 b n)
def rx_lp2 {β : Type} (b : (Int32 → Int32 → Me → Option β) → Int32 → Int32 → Me → Option β) : Nat → Int32 → Int32 → Me → Option β
  | 0 => fun _ _ _ => none
  | n + 1 => b (rx_lp2 b n)
def rx_lp3 {β : Type} (b : (Int32 → Int32 → Int32 → Me → Option β) → Int32 → Int32 → Int32 → Me → Option β) : Nat → Int32 → Int32 → Int32 → Me → Option β
  | 0 => fun _ _ _ _ => none
  | n + 1 => b (rx_lp3 b n)
def rx_lp4 {β : Type} (b : (Int32 → Int32 → Int32 → Int32 → Me → Option β) → Int32 → Int32 → Int32 → Int32 → Me → Option β) : Nat → Int32 → Int32 → Int32 → Int32 → Me → Option β
  | 0 => fun _ _ _ _ _ => none
  | n + 1 => b (rx_lp4 b n)
def rx_FU : Nat := 4096
theorem rx_ldI {β : Type} {M : Me} {c n : Nat} {i : Int32} {k : Int32 → Option β} {o : β} (h : rx_ld M c n i k = some o) : vp_in i n ∧ ∃ v, v = M c i.toNatClampNeg ∧ k v = some o := by
  unfold rx_ld at h
  by_cases hc : i < 0 ∨ n ≤ i.toNatClampNeg
  · rw [if_pos hc] at h; cases h
  · rw [if_neg hc] at h; exact ⟨hc, _, rfl, h⟩
theorem rx_lsI {β : Type} {xs : List Int32} {i : Int32} {k : Int32 → Option β} {o : β} (h : rx_ls xs i k = some o) : vp_in i xs.length ∧ ∃ v, v = xs.getD i.toNatClampNeg 0 ∧ k v = some o := by
  unfold rx_ls at h
  by_cases hc : i < 0 ∨ xs.length ≤ i.toNatClampNeg
  · rw [if_pos hc] at h; cases h
  · rw [if_neg hc] at h; exact ⟨hc, _, rfl, h⟩
theorem rx_svI {β : Type} {M : Me} {c n : Nat} {i x : Int32} {k : Me → Option β} {o : β} (h : rx_sv M c n i x k = some o) : vp_in i n ∧ ∃ v, v = rx_st M c i.toNatClampNeg x ∧ k v = some o := by
  unfold rx_sv at h
  by_cases hc : i < 0 ∨ n ≤ i.toNatClampNeg
  · rw [if_pos hc] at h; cases h
  · rw [if_neg hc] at h; exact ⟨hc, _, rfl, h⟩
theorem rx_vvI {α β : Type} {e : α} {k : α → Option β} {o : β} (h : rx_vv e k = some o) : ∃ v, v = e ∧ k v = some o := ⟨e, rfl, h⟩
theorem rx_clI {β : Type} {q : Op} {k : Int32 → Me → Option β} {o : β} (h : rx_cl q k = some o) : ∃ r M, q = some (r, M) ∧ k r M = some o := by
  cases q with
  | none => cases h
  | some q => exact ⟨q.1, q.2, rfl, h⟩
theorem rx_zbI {β : Type} {r : Int32} {k : Option β} {o : β} (h : rx_zb r k = some o) : (r = 0 ∨ r = 1) ∧ k = some o := by
  unfold rx_zb at h
  by_cases hc : r = 0 ∨ r = 1
  · rw [if_pos hc] at h; exact ⟨hc, h⟩
  · rw [if_neg hc] at h; cases h
theorem rx_t {β : Type} {c : Prop} {dc : Decidable c} {a b : Option β} {o : β} (hc : c) (h : @ite _ c dc a b = some o) : a = some o := by rw [if_pos hc] at h; exact h
theorem rx_f {β : Type} {c : Prop} {dc : Decidable c} {a b : Option β} {o : β} (hc : ¬ c) (h : @ite _ c dc a b = some o) : b = some o := by rw [if_neg hc] at h; exact h
theorem rx_no {β : Type} {P : Prop} {o : β} (h : (none : Option β) = some o) : P := by cases h
theorem rx_inc {n : Int} {k x v : Int32} (h : Int32.ofInt n = k) (e : v = x + k) : x + Int32.ofInt n = v := by rw [h, e]
theorem rx_fz {r : Int32} (h : r = 0 ∨ r = 1) : fits .boolean (.int r) = true := by
  rcases h with rfl | rfl <;> rfl
theorem rx_nest_same {w : Cond} (hw : rx_nest w = true) {u U : State} (h : u.vm = U.vm) (hZ : va_Nw w u) : va_Nw w U := by
  cases w <;> first | (exact va_Nw.same rfl h hZ) | (cases hw)
theorem rx_nest_warm {w : Cond} (hw : rx_nest w = true) {s U : State} (hW : s.WarmedH U.vm) (hZ : va_Nw w s) : va_Nw w U := by
  cases w <;> first | (exact va_Nw.warmF hW hZ) | (exact va_Nw.warmM hW hZ) | (cases hw)
abbrev rx_zt : Type := List (String × Nat × List Int32)
def rx_Z (zs : rx_zt) (A : Nat → Prop) (U : State) (H : Heap) : Prop := ∀ z ∈ zs, va_Z "RealmTiles" z.1 "[I" (.ref z.2.1) A U H ∧ va_X z.2.1 z.2.2.length (fun j => z.2.2.getD j 0) U H ∧ ¬ A z.2.1
theorem rx_Z.moved {zs : rx_zt} {A : Nat → Prop} {u U : State} {H : Heap} (hvm : u.vm.Alike U.vm) (h : rx_Z zs A u H) : rx_Z zs A U H := fun z hz => ⟨va_Z.moved hvm (h z hz).1, va_X.moved hvm (h z hz).2.1, (h z hz).2.2⟩
theorem rx_Z.kept {zs : rx_zt} {A : Nat → Prop} {U : State} {H H1 : Heap} (h : rx_Z zs A U H) (hq : ∀ a : Nat, a < H.size → ¬ A a → H1[a]? = H[a]?) : rx_Z zs A U H1 := fun z hz =>
  ⟨va_Z.kept (h z hz).1 hq, va_X.kept (h z hz).2.1 (hq _ (by obtain ⟨scr, h1, -⟩ := (h z hz).2.1; exact (Array.getElem?_eq_some_iff.mp h1).1) (h z hz).2.2), (h z hz).2.2⟩
theorem rx_Z.narrow {zs : rx_zt} {A B : Nat → Prop} {U : State} {H : Heap} (h : rx_Z zs A U H) (hAB : ∀ q, B q → A q) : rx_Z zs B U H := fun z hz => ⟨va_Z.narrow (h z hz).1 hAB, (h z hz).2.1, fun q => (h z hz).2.2 (hAB _ q)⟩
/-- a method's surroundings, and the world at a heap -/
def rx_C (p : Program) (m : MethodId) (c : Code) (cc : ByteArray) (nL : Nat) (s : State) (args : Array Value) (Ts : List Cond) (own : String) (D : va_G) (cl : List vw_C) (tys : List (ClassId × FieldType)) (zs : rx_zt) (NW : List Cond) (A : Nat → Prop) : Prop :=
  CallFix p m c cc nL s args Ts own ∧ va_K D cl tys s ∧ rx_Z zs A s s.heap ∧ (∀ w ∈ NW, va_Nw w s) ∧ (∀ w ∈ NW, rx_nest w = true) ∧ ∀ q : Nat, s.heap.size ≤ q → A q
def rx_W (D : va_G) (cl : List vw_C) (wd : Me → va_W) (A : Nat → Prop) (H0 : Heap) (M : Me) (H : Heap) (locs : List Loc) : Prop := va_P D cl (wd M) H ∧ va_D A (wd M) ∧ va_S A H0 H locs
/-- an array of ints (or booleans) at a cell; an int field; a field that holds another cell -/
def rx_ar (wd : Me → va_W) (tys : List (ClassId × FieldType)) (ty : FieldType) (a q0 n : Nat) : Prop := ∃ (cA : ClassId) (t0 : Nat), tys[t0]? = some (cA, ty) ∧ (∀ M, (wd M)[q0]? = some (a, .inl (cA, n, .inl (M q0)))) ∧ ∀ M f, (wd M).set q0 (a, .inl (cA, n, .inl f)) = wd (fun d => if d = q0 then f else M d)
def rx_fi (wd : Me → va_W) (a q0 ci k : Nat) : Prop := ∃ fs : Me → List Value, (∀ M, (wd M)[q0]? = some (a, .inr (ci, fs M))) ∧ (∀ M, (fs M)[k]? = some (.int (M q0 k))) ∧ ∀ M x, (wd M).set q0 (a, .inr (ci, (fs M).set k (.int x))) = wd (rx_st M q0 k x)
def rx_fr (wd : Me → va_W) (a q0 ci k b : Nat) : Prop := ∃ fs : Me → List Value, (∀ M, (wd M)[q0]? = some (a, .inr (ci, fs M))) ∧ ∀ M, (fs M)[k]? = some (.ref b)
def rx_ob (wd : Me → va_W) (a q0 ci : Nat) : Prop := ∃ fs : Me → List Value, ∀ M, (wd M)[q0]? = some (a, .inr (ci, fs M))
def rx_Pre (D : va_G) (cl : List vw_C) (wd : Me → va_W) (tys : List (ClassId × FieldType)) (zs : rx_zt) (NW : List Cond) (sz : Nat) (M : Me) (U : State) : Prop := U.heap.size = sz ∧ va_P D cl (wd M) U.heap ∧ va_K D cl tys U ∧ va_D (fun _ => True) (wd M) ∧ rx_Z zs (va_A (wd M) sz) U U.heap ∧ ∀ w ∈ NW, va_Nw w U
def rx_Post (D : va_G) (cl : List vw_C) (wd : Me → va_W) (tys : List (ClassId × FieldType)) (A : Nat → Prop) (M : Me) (t : State) : Prop := va_P D cl (wd M) t.heap ∧ va_K D cl tys t ∧ va_D A (wd M)
/-- contracts: with an int for an answer, with none -/
def rx_MI (l : Launch) (y : MethodName) (ws : List Cond) (rm : Room) (D : va_G) (cl : List vw_C) (wd : Me → va_W) (tys : List (ClassId × FieldType)) (zs : rx_zt) (NW : List Cond) (av : List Value) (f : Me → Op) : Prop := ∀ (sz : Nat) (M : Me) (o : Int32 × Me), f M = some o →
  Met l y ws rm (va_Pc av (rx_Pre D cl wd tys zs NW sz M)) (va_Qi (fun r u => r = o.1 ∧ u = o.2) (rx_Post D cl wd tys (va_A (wd M) sz)) (va_A (wd M) sz)) 0 0 (va_A (wd M) sz)
def rx_MV (l : Launch) (y : MethodName) (ws : List Cond) (rm : Room) (D : va_G) (cl : List vw_C) (wd : Me → va_W) (tys : List (ClassId × FieldType)) (zs : rx_zt) (NW : List Cond) (av : List Value) (f : Me → Op) : Prop := ∀ (sz : Nat) (M : Me) (o : Int32 × Me), f M = some o →
  Met l y ws rm (va_Pc av (rx_Pre D cl wd tys zs NW sz M)) (va_Qv (fun u => u = o.2) (rx_Post D cl wd tys (va_A (wd M) sz)) (va_A (wd M) sz)) 0 0 (va_A (wd M) sz)
section RX
variable {p : Program} {l : Launch} {e : Env} {R : Room} {s : State} {m : MethodId} {args : Array Value} {below : List Frame} {meth : Method} {c : Code} {H : Heap} {locs : List Loc} {cells slots : Nat} {Q : State → Prop} {cc : ByteArray} {pc nL : Nat} {ls : Array Slot} {rest : List Value} {D : va_G} {cl : List vw_C} {A : Nat → Prop} {tys : List (ClassId × FieldType)} {wd : Me → va_W} {zs : rx_zt} {NW Ts : List Cond} {own : String} {M : Me}
theorem rx_top {x v : Int32} (h : v = x) (k : W p l e R s m args below meth c H locs cells slots Q (F0 m pc ls (.int v :: rest))) : W p l e R s m args below meth c H locs cells slots Q (F0 m pc ls (.int x :: rest)) := by subst h; exact k
theorem rx_topl {x v : Int64} (h : v = x) (k : W p l e R s m args below meth c H locs cells slots Q (F0 m pc ls (.long v :: rest))) : W p l e R s m args below meth c H locs cells slots Q (F0 m pc ls (.long x :: rest)) := by subst h; exact k
theorem rx_iald (cx : rx_C p m c cc nL s args Ts own D cl tys zs NW A) (hw : rx_W D cl wd A s.heap M H locs) {a q0 n : Nat} (ha : rx_ar wd tys .int a q0 n) {i v : Int32} (hi : vp_in i n ∧ v = M q0 i.toNatClampNeg) (hdg : decode cc pc = .ok (.iaload, 1))
    (kk : W p l e R s m args below meth c H locs cells slots Q (F0 m (pc + 1) ls (.int v :: rest))) : W p l e R s m args below meth c H locs cells slots Q (F0 m pc ls (.int i :: .ref a :: rest)) := by
  obtain ⟨cA, t0, ht, hq, -⟩ := ha
  obtain ⟨hin, rfl⟩ := hi
  exact va_iald cx.1.1 cx.1.2.1 cx.2.1 hw.1 q0 t0 (hq M) ht hin hdg kk
theorem rx_zald (cx : rx_C p m c cc nL s args Ts own D cl tys zs NW A) (hw : rx_W D cl wd A s.heap M H locs) {a q0 n : Nat} (ha : rx_ar wd tys .boolean a q0 n) {i v : Int32} (hi : vp_in i n ∧ v = M q0 i.toNatClampNeg) (hdg : decode cc pc = .ok (.baload, 1))
    (kk : W p l e R s m args below meth c H locs cells slots Q (F0 m (pc + 1) ls (.int v :: rest))) : W p l e R s m args below meth c H locs cells slots Q (F0 m pc ls (.int i :: .ref a :: rest)) := by
  obtain ⟨cA, t0, ht, hq, -⟩ := ha
  obtain ⟨hin, rfl⟩ := hi
  exact va_zald cx.1.1 cx.1.2.1 cx.2.1 hw.1 q0 t0 (hq M) ht hin hdg kk
theorem rx_iast (cx : rx_C p m c cc nL s args Ts own D cl tys zs NW A) (hw : rx_W D cl wd A s.heap M H locs) {a q0 n : Nat} (ha : rx_ar wd tys .int a q0 n) {i x : Int32} {M1 : Me} (hi : vp_in i n ∧ M1 = rx_st M q0 i.toNatClampNeg x) (hdg : decode cc pc = .ok (.iastore, 1))
    (kk : ∀ (H : Heap) (locs : List Loc), rx_W D cl wd A s.heap M1 H locs → W p l e R s m args below meth c H locs cells slots Q (F0 m (pc + 1) ls rest)) : W p l e R s m args below meth c H locs cells slots Q (F0 m pc ls (.int x :: .int i :: .ref a :: rest)) := by
  obtain ⟨cA, t0, ht, hq, hs⟩ := ha
  obtain ⟨hin, rfl⟩ := hi
  refine va_iast cx.1.1 cx.1.2.1 cx.2.1 hw.1 hw.2.1 hw.2.2 q0 t0 (hq M) ht hin hdg (fun H1 locs1 hP hD hS => ?_)
  rw [hs] at hP hD
  exact kk H1 locs1 ⟨hP, hD, hS⟩
theorem rx_zast (cx : rx_C p m c cc nL s args Ts own D cl tys zs NW A) (hw : rx_W D cl wd A s.heap M H locs) {a q0 n : Nat} (ha : rx_ar wd tys .boolean a q0 n) {i x : Int32} {M1 : Me} (hi : vp_in i n ∧ M1 = rx_st M q0 i.toNatClampNeg (vp_nar .boolean x)) (hdg : decode cc pc = .ok (.bastore, 1))
    (kk : ∀ (H : Heap) (locs : List Loc), rx_W D cl wd A s.heap M1 H locs → W p l e R s m args below meth c H locs cells slots Q (F0 m (pc + 1) ls rest)) : W p l e R s m args below meth c H locs cells slots Q (F0 m pc ls (.int x :: .int i :: .ref a :: rest)) := by
  obtain ⟨cA, t0, ht, hq, hs⟩ := ha
  obtain ⟨hin, rfl⟩ := hi
  refine va_zast cx.1.1 cx.1.2.1 cx.2.1 hw.1 hw.2.1 hw.2.2 q0 t0 (hq M) ht hin hdg (fun H1 locs1 hP hD hS => ?_)
  rw [hs] at hP hD
  exact kk H1 locs1 ⟨hP, hD, hS⟩
theorem rx_alen (cx : rx_C p m c cc nL s args Ts own D cl tys zs NW A) (hw : rx_W D cl wd A s.heap M H locs) {ty : FieldType} {a q0 n : Nat} (ha : rx_ar wd tys ty a q0 n) (hdg : decode cc pc = .ok (.arraylength, 1))
    (kk : W p l e R s m args below meth c H locs cells slots Q (F0 m (pc + 1) ls (.int (Int32.ofNat n) :: rest))) : W p l e R s m args below meth c H locs cells slots Q (F0 m pc ls (.ref a :: rest)) := by
  obtain ⟨cA, t0, ht, hq, -⟩ := ha
  exact va_alen cx.1.1 cx.1.2.1 cx.2.1 hw.1 q0 t0 (hq M) ht rfl hdg kk
theorem rx_geti (cx : rx_C p m c cc nL s args Ts own D cl tys zs NW A) (hw : rx_W D cl wd A s.heap M H locs) {C : String} {T : u_T} {N ci index a q0 k : Nat} (hf : rx_fi wd a q0 ci k) (hc : cl[ci]? = some (C, T, N)) (hin : ∀ w ∈ u_ws C T N, w ∈ Ts) (hk : k < N) (hlink : Cond.fieldLink own index (T k).1 (T k).2.1 (T k).2.2.1 ∈ Ts) {v : Int32} (hv : v = M q0 k) (hdg : decode cc pc = .ok (.getfield index, 3))
    (kk : W p l e R s m args below meth c H locs cells slots Q (F0 m (pc + 3) ls (.int v :: rest))) : W p l e R s m args below meth c H locs cells slots Q (F0 m pc ls (.ref a :: rest)) := by
  obtain ⟨fs, h1, h2, -⟩ := hf
  subst hv
  exact va_get cx.1.1 cx.1.2.1 cx.1.2.2.2.2 hin cx.1.2.2.2.1 cx.2.1 hw.1 q0 (h1 M) hc k hk (cx.1.2.2.2.2 _ hlink) (fun _ h => h) (h2 M) hdg kk
theorem rx_getiN (cx : rx_C p m c cc nL s args Ts own D cl tys zs NW A) (hw : rx_W D cl wd A s.heap M H locs) {C host : String} {T : u_T} {N ci index a q0 k : Nat} (hf : rx_fi wd a q0 ci k) (hc : cl[ci]? = some (C, T, N)) (hin : ∀ w ∈ u_ws C T N, w ∈ Ts) (hk : k < N) (hlink : Cond.fieldLinkNest own index (T k).1 (T k).2.1 (T k).2.2.1 host ∈ NW) {v : Int32} (hv : v = M q0 k) (hdg : decode cc pc = .ok (.getfield index, 3))
    (kk : W p l e R s m args below meth c H locs cells slots Q (F0 m (pc + 3) ls (.int v :: rest))) : W p l e R s m args below meth c H locs cells slots Q (F0 m pc ls (.ref a :: rest)) := by
  obtain ⟨fs, h1, h2, -⟩ := hf
  subst hv
  exact va_getN cx.1.1 cx.1.2.1 cx.1.2.2.2.2 hin cx.1.2.2.2.1 cx.2.1 hw.1 q0 (h1 M) hc k hk (va_Nw.use rfl (cx.2.2.2.1 _ hlink)) (fun _ h => h) (h2 M) hdg kk
theorem rx_getr (cx : rx_C p m c cc nL s args Ts own D cl tys zs NW A) (hw : rx_W D cl wd A s.heap M H locs) {C : String} {T : u_T} {N ci index a q0 k b : Nat} (hf : rx_fr wd a q0 ci k b) (hc : cl[ci]? = some (C, T, N)) (hin : ∀ w ∈ u_ws C T N, w ∈ Ts) (hk : k < N) (hlink : Cond.fieldLink own index (T k).1 (T k).2.1 (T k).2.2.1 ∈ Ts) (hdg : decode cc pc = .ok (.getfield index, 3))
    (kk : W p l e R s m args below meth c H locs cells slots Q (F0 m (pc + 3) ls (.ref b :: rest))) : W p l e R s m args below meth c H locs cells slots Q (F0 m pc ls (.ref a :: rest)) := by
  obtain ⟨fs, h1, h2⟩ := hf
  exact va_get cx.1.1 cx.1.2.1 cx.1.2.2.2.2 hin cx.1.2.2.2.1 cx.2.1 hw.1 q0 (h1 M) hc k hk (cx.1.2.2.2.2 _ hlink) (fun _ h => h) (h2 M) hdg kk
theorem rx_getrN (cx : rx_C p m c cc nL s args Ts own D cl tys zs NW A) (hw : rx_W D cl wd A s.heap M H locs) {C host : String} {T : u_T} {N ci index a q0 k b : Nat} (hf : rx_fr wd a q0 ci k b) (hc : cl[ci]? = some (C, T, N)) (hin : ∀ w ∈ u_ws C T N, w ∈ Ts) (hk : k < N) (hlink : Cond.fieldLinkNest own index (T k).1 (T k).2.1 (T k).2.2.1 host ∈ NW) (hdg : decode cc pc = .ok (.getfield index, 3))
    (kk : W p l e R s m args below meth c H locs cells slots Q (F0 m (pc + 3) ls (.ref b :: rest))) : W p l e R s m args below meth c H locs cells slots Q (F0 m pc ls (.ref a :: rest)) := by
  obtain ⟨fs, h1, h2⟩ := hf
  exact va_getN cx.1.1 cx.1.2.1 cx.1.2.2.2.2 hin cx.1.2.2.2.1 cx.2.1 hw.1 q0 (h1 M) hc k hk (va_Nw.use rfl (cx.2.2.2.1 _ hlink)) (fun _ h => h) (h2 M) hdg kk
theorem rx_len {α : Type} {l : List α} {k : Nat} {x : α} (h : l[k]? = some x) : k < l.length := (List.getElem?_eq_some_iff.mp h).1
theorem rx_puti (cx : rx_C p m c cc nL s args Ts own D cl tys zs NW A) (hw : rx_W D cl wd A s.heap M H locs) {C : String} {T : u_T} {N ci index a q0 k : Nat} (hf : rx_fi wd a q0 ci k) (hc : cl[ci]? = some (C, T, N)) (hin : ∀ w ∈ u_ws C T N, w ∈ Ts) (ty0 : Nat → FieldType) (hty : ∀ k, k < N → parseFieldDescriptor (T k).2.2.1 = some (ty0 k)) (hnm : ∀ a, a < N → ∀ b, b < N → a ≠ b → (T a).2.1 ≠ (T b).2.1) (hk : k < N) (hlink : Cond.fieldLink own index (T k).1 (T k).2.1 (T k).2.2.1 ∈ Ts) (hfin : (T k).2.2.2 = false) {x : Int32} (hn : narrow (ty0 k) (.int x) = .int x) (hfit : fits (ty0 k) (.int x) = true) {M1 : Me} (hv : M1 = rx_st M q0 k x) (hdg : decode cc pc = .ok (.putfield index, 3))
    (kk : ∀ (H : Heap) (locs : List Loc), rx_W D cl wd A s.heap M1 H locs → W p l e R s m args below meth c H locs cells slots Q (F0 m (pc + 3) ls rest)) : W p l e R s m args below meth c H locs cells slots Q (F0 m pc ls (.int x :: .ref a :: rest)) := by
  obtain ⟨fs, h1, h2, h3⟩ := hf
  subst hv
  refine va_put cx.1.1 cx.1.2.1 cx.1.2.2.2.2 hin ty0 hty hnm cx.1.2.2.2.1 cx.2.1 hw.1 hw.2.1 hw.2.2 q0 (h1 M) hc k hk (cx.1.2.2.2.2 _ hlink) (fun _ h => h) hfin (hty k hk) hn hfit (rx_len (h2 M)) hdg (fun H1 locs1 hP hD hS => ?_)
  rw [h3] at hP hD
  exact kk H1 locs1 ⟨hP, hD, hS⟩
theorem rx_putiN (cx : rx_C p m c cc nL s args Ts own D cl tys zs NW A) (hw : rx_W D cl wd A s.heap M H locs) {C host : String} {T : u_T} {N ci index a q0 k : Nat} (hf : rx_fi wd a q0 ci k) (hc : cl[ci]? = some (C, T, N)) (hin : ∀ w ∈ u_ws C T N, w ∈ Ts) (ty0 : Nat → FieldType) (hty : ∀ k, k < N → parseFieldDescriptor (T k).2.2.1 = some (ty0 k)) (hnm : ∀ a, a < N → ∀ b, b < N → a ≠ b → (T a).2.1 ≠ (T b).2.1) (hk : k < N) (hlink : Cond.fieldLinkNest own index (T k).1 (T k).2.1 (T k).2.2.1 host ∈ NW) (hfin : (T k).2.2.2 = false) {x : Int32} (hn : narrow (ty0 k) (.int x) = .int x) (hfit : fits (ty0 k) (.int x) = true) {M1 : Me} (hv : M1 = rx_st M q0 k x) (hdg : decode cc pc = .ok (.putfield index, 3))
    (kk : ∀ (H : Heap) (locs : List Loc), rx_W D cl wd A s.heap M1 H locs → W p l e R s m args below meth c H locs cells slots Q (F0 m (pc + 3) ls rest)) : W p l e R s m args below meth c H locs cells slots Q (F0 m pc ls (.int x :: .ref a :: rest)) := by
  obtain ⟨fs, h1, h2, h3⟩ := hf
  subst hv
  refine va_putN cx.1.1 cx.1.2.1 cx.1.2.2.2.2 hin ty0 hty hnm cx.1.2.2.2.1 cx.2.1 hw.1 hw.2.1 hw.2.2 q0 (h1 M) hc k hk (va_Nw.use rfl (cx.2.2.2.1 _ hlink)) (fun _ h => h) hfin (hty k hk) hn hfit (rx_len (h2 M)) hdg (fun H1 locs1 hP hD hS => ?_)
  rw [h3] at hP hD
  exact kk H1 locs1 ⟨hP, hD, hS⟩
/-- a static array of the class: its reference, its length, its places -/
theorem rx_gets (cx : rx_C p m c cc nL s args Ts own D cl tys zs NW A) (hw : rx_W D cl wd A s.heap M H locs) {index : Nat} {z : String × Nat × List Int32} (hz : z ∈ zs) (hlink : Cond.fieldLink own index "RealmTiles" z.1 "[I" ∈ Ts) (hdg : decode cc pc = .ok (.getstatic index, 3))
    (kk : W p l e R s m args below meth c H locs cells slots Q (F0 m (pc + 3) ls (.ref z.2.1 :: rest))) : W p l e R s m args below meth c H locs cells slots Q (F0 m pc ls rest) :=
  va_gets cx.1.1 cx.1.2.1 (cx.2.2.1 z hz).1 hw.2.2 cx.1.2.2.2.1 (cx.1.2.2.2.2 _ hlink) (fun _ h => h) hdg kk
theorem rx_getsN (cx : rx_C p m c cc nL s args Ts own D cl tys zs NW A) (hw : rx_W D cl wd A s.heap M H locs) {host : String} {index : Nat} {z : String × Nat × List Int32} (hz : z ∈ zs) (hlink : Cond.fieldLinkNest own index "RealmTiles" z.1 "[I" host ∈ NW) (hdg : decode cc pc = .ok (.getstatic index, 3))
    (kk : W p l e R s m args below meth c H locs cells slots Q (F0 m (pc + 3) ls (.ref z.2.1 :: rest))) : W p l e R s m args below meth c H locs cells slots Q (F0 m pc ls rest) :=
  va_getsN cx.1.1 cx.1.2.1 (cx.2.2.1 z hz).1 hw.2.2 cx.1.2.2.2.1 (va_Nw.use rfl (cx.2.2.2.1 _ hlink)) (fun _ h => h) hdg kk
theorem rx_bl {b L : Nat} {xs : Nat → Int32} {U : State} {H : Heap} (h : va_X b L xs U H) : b < H.size := by
  obtain ⟨scr, h1, -⟩ := h
  exact (Array.getElem?_eq_some_iff.mp h1).1
theorem rx_lds (cx : rx_C p m c cc nL s args Ts own D cl tys zs NW A) (hw : rx_W D cl wd A s.heap M H locs) {z : String × Nat × List Int32} (hz : z ∈ zs) {i v : Int32} (hi : vp_in i z.2.2.length ∧ v = z.2.2.getD i.toNatClampNeg 0) (hdg : decode cc pc = .ok (.iaload, 1))
    (kk : W p l e R s m args below meth c H locs cells slots Q (F0 m (pc + 1) ls (.int v :: rest))) : W p l e R s m args below meth c H locs cells slots Q (F0 m pc ls (.int i :: .ref z.2.1 :: rest)) := by
  obtain ⟨hin, rfl⟩ := hi
  exact va_sld cx.1.1 cx.1.2.1 (cx.2.2.1 z hz).2.1 (rx_bl (cx.2.2.1 z hz).2.1) (cx.2.2.1 z hz).2.2 hw.2.2 hin hdg kk
theorem rx_lens (cx : rx_C p m c cc nL s args Ts own D cl tys zs NW A) (hw : rx_W D cl wd A s.heap M H locs) {z : String × Nat × List Int32} (hz : z ∈ zs) (hdg : decode cc pc = .ok (.arraylength, 1))
    (kk : W p l e R s m args below meth c H locs cells slots Q (F0 m (pc + 1) ls (.int (Int32.ofNat z.2.2.length) :: rest))) : W p l e R s m args below meth c H locs cells slots Q (F0 m pc ls (.ref z.2.1 :: rest)) :=
  va_slen cx.1.1 cx.1.2.1 (cx.2.2.1 z hz).2.1 (rx_bl (cx.2.2.1 z hz).2.1) (cx.2.2.1 z hz).2.2 hw.2.2 hdg kk
/-- an array of two objects -/
def rx_lv (wd : Me → va_W) (tys : List (ClassId × FieldType)) (a q0 b0 b1 : Nat) : Prop := ∃ (cA : ClassId) (t0 : Nat) (C : String), tys[t0]? = some (cA, .object C) ∧ ∀ M, (wd M)[q0]? = some (a, .inl (cA, 2, .inr (.inr (.inr (.inr (fun j => some (if j = 0 then b0 else b1)))))))
theorem rx_aal0 (cx : rx_C p m c cc nL s args Ts own D cl tys zs NW A) (hw : rx_W D cl wd A s.heap M H locs) {a q0 b0 b1 : Nat} (ha : rx_lv wd tys a q0 b0 b1) {i : Int32} (hi : i = 0) (hdg : decode cc pc = .ok (.aaload, 1))
    (kk : W p l e R s m args below meth c H locs cells slots Q (F0 m (pc + 1) ls (.ref b0 :: rest))) : W p l e R s m args below meth c H locs cells slots Q (F0 m pc ls (.int i :: .ref a :: rest)) := by
  obtain ⟨cA, t0, C, ht, hq⟩ := ha
  subst hi
  exact va_aldq cx.1.1 cx.1.2.1 cx.2.1 hw.1 q0 t0 (hq M) ht (by unfold vp_in; decide) hdg kk
theorem rx_aal1 (cx : rx_C p m c cc nL s args Ts own D cl tys zs NW A) (hw : rx_W D cl wd A s.heap M H locs) {a q0 b0 b1 : Nat} (ha : rx_lv wd tys a q0 b0 b1) {i : Int32} (hi : i = 1) (hdg : decode cc pc = .ok (.aaload, 1))
    (kk : W p l e R s m args below meth c H locs cells slots Q (F0 m (pc + 1) ls (.ref b1 :: rest))) : W p l e R s m args below meth c H locs cells slots Q (F0 m pc ls (.int i :: .ref a :: rest)) := by
  obtain ⟨cA, t0, C, ht, hq⟩ := ha
  subst hi
  exact va_aldq cx.1.1 cx.1.2.1 cx.2.1 hw.1 q0 t0 (hq M) ht (by unfold vp_in; decide) hdg kk
theorem rx_lvlen (cx : rx_C p m c cc nL s args Ts own D cl tys zs NW A) (hw : rx_W D cl wd A s.heap M H locs) {a q0 b0 b1 : Nat} (ha : rx_lv wd tys a q0 b0 b1) (hdg : decode cc pc = .ok (.arraylength, 1))
    (kk : W p l e R s m args below meth c H locs cells slots Q (F0 m (pc + 1) ls (.int 2 :: rest))) : W p l e R s m args below meth c H locs cells slots Q (F0 m pc ls (.ref a :: rest)) := by
  obtain ⟨cA, t0, C, ht, hq⟩ := ha
  exact va_alen cx.1.1 cx.1.2.1 cx.2.1 hw.1 q0 t0 (hq M) ht (v := 2) rfl hdg kk
theorem rx_max (cx : rx_C p m c cc nL s args Ts own D cl tys zs NW A) {index : Nat} (h1 : Cond.methodLink own index Lib.Math.max.name ∈ Ts) (h2 : Cond.static Lib.Math.max.name ∈ Ts) (h3 : Cond.initialized "java/lang/Math" ∈ Ts) (h4 : Cond.code Lib.Math.max.name Lib.Math.max.code 2 (some .int) ∈ Ts) (hsz : ls.size = nL) (hr : 1 ≤ R.frames ∧ (rest.map fun v => v.category).sum + 13 ≤ R.locals ∧ cells ≤ R.cells ∧ slots ≤ R.slots) {x y : Int32} (hdg : decode cc pc = .ok (.invokestatic index, 3))
    (kk : W p l e R s m args below meth c H locs cells slots Q (F0 m (pc + 3) ls (.int (if x < y then y else x) :: rest))) : W p l e R s m args below meth c H locs cells slots Q (F0 m pc ls (.int y :: .int x :: rest)) :=
  va_mmax cx.1.1 cx.1.2.1 (by rw [hsz]; exact cx.1.2.2.1) cx.1.2.2.2.1 (cx.1.2.2.2.2 _ h1) (cx.1.2.2.2.2 _ h2) (cx.1.2.2.2.2 _ h3) (cx.1.2.2.2.2 _ h4) hr.1 hr.2.1 hr.2.2.1 hr.2.2.2 hdg kk
theorem rx_min (cx : rx_C p m c cc nL s args Ts own D cl tys zs NW A) {index : Nat} (h1 : Cond.methodLink own index Lib.Math.min.name ∈ Ts) (h2 : Cond.static Lib.Math.min.name ∈ Ts) (h3 : Cond.initialized "java/lang/Math" ∈ Ts) (h4 : Cond.code Lib.Math.min.name Lib.Math.min.code 2 (some .int) ∈ Ts) (hsz : ls.size = nL) (hr : 1 ≤ R.frames ∧ (rest.map fun v => v.category).sum + 13 ≤ R.locals ∧ cells ≤ R.cells ∧ slots ≤ R.slots) {x y : Int32} (hdg : decode cc pc = .ok (.invokestatic index, 3))
    (kk : W p l e R s m args below meth c H locs cells slots Q (F0 m (pc + 3) ls (.int (if y < x then y else x) :: rest))) : W p l e R s m args below meth c H locs cells slots Q (F0 m pc ls (.int y :: .int x :: rest)) :=
  va_mmin cx.1.1 cx.1.2.1 (by rw [hsz]; exact cx.1.2.2.1) cx.1.2.2.2.1 (cx.1.2.2.2.2 _ h1) (cx.1.2.2.2.2 _ h2) (cx.1.2.2.2.2 _ h3) (cx.1.2.2.2.2 _ h4) hr.1 hr.2.1 hr.2.2.1 hr.2.2.2 hdg kk
/-- System.arraycopy(a0, 0, a1, 0, 3) between two rows of three -/
def rx_cp3 (M : Me) (q0 q1 : Nat) : Me := fun d => if d = q1 then va_cpy (M q0) (M q1) 0 0 3 else M d
theorem rx_copy (cx : rx_C p m c cc nL s args Ts own D cl tys zs NW A) (hw : rx_W D cl wd A s.heap M H locs) {index : Nat} (h1 : Cond.methodLink own index arraycopyName ∈ Ts) (h2 : Cond.native arraycopyName ∈ Ts) (h3 : Cond.static arraycopyName ∈ Ts) (h4 : Cond.initialized "java/lang/System" ∈ Ts) (hsz : ls.size = nL) {a0 q0 a1 q1 : Nat} (ha0 : rx_ar wd tys .int a0 q0 3) (ha1 : rx_ar wd tys .int a1 q1 3) {M1 : Me} (hv : M1 = rx_cp3 M q0 q1) (hr : 1 ≤ R.frames ∧ (rest.map fun v => v.category).sum + (nativeFrameWords "java/lang/System" "arraycopy" 5 + 11) ≤ R.locals) (hdg : decode cc pc = .ok (.invokestatic index, 3))
    (kk : ∀ (H : Heap) (locs : List Loc), rx_W D cl wd A s.heap M1 H locs → W p l e R s m args below meth c H locs cells slots Q (F0 m (pc + 3) ls rest)) : W p l e R s m args below meth c H locs cells slots Q (F0 m pc ls (.int 3 :: .int 0 :: .ref a1 :: .int 0 :: .ref a0 :: rest)) := by
  obtain ⟨c0, t0, ht0, hq0, -⟩ := ha0
  obtain ⟨c1, t1, ht1, hq1, hs1⟩ := ha1
  subst hv
  refine va_copyi cx.1.1 cx.1.2.1 (by rw [hsz]; exact cx.1.2.2.1) cx.1.2.2.2.1 (cx.1.2.2.2.2 _ h1) (cx.1.2.2.2.2 _ h2) (cx.1.2.2.2.2 _ h3) (cx.1.2.2.2.2 _ h4) cx.2.1 hw.1 hw.2.1 hw.2.2 q0 q1 t0 t1 (hq0 M) (hq1 M) ht0 ht1 rfl (by decide) (by decide) (by decide) (by decide) (by decide) (fun _ _ => rfl) hr.1 hr.2 hdg (fun H1 locs1 hP hD hS => ?_)
  rw [hs1] at hP hD
  exact kk H1 locs1 ⟨hP, hD, hS⟩
/-- calls -/
theorem rx_frees (cx : rx_C p m c cc nL s args Ts own D cl tys zs NW A) (hw : rx_W D cl wd A s.heap M H locs) : ∀ q, va_A (wd M) H.size q → A q := by
  rintro q (⟨k, e, h⟩ | h)
  · exact hw.2.1.2 k _ h
  · exact cx.2.2.2.2.2 q (Nat.le_trans hw.2.2.1 h)
theorem rx_blind {av : List Value} {sz : Nat} (hn : ∀ w ∈ NW, rx_nest w = true) : FrameBlind (va_Pc av (rx_Pre D cl wd tys zs NW sz M)) := fun a U g mk q => by
  obtain ⟨q0, q1, qP, qK, qD, qZ, qN⟩ := q
  exact ⟨q0, q1, qP, va_K.moved (u := U) (U := U.calling g mk a) (Vm.Alike.refl U.vm) qK, qD, rx_Z.moved (u := U) (U := U.calling g mk a) (Vm.Alike.refl U.vm) qZ, fun w h => rx_nest_same (u := U) (hn w h) rfl (qN w h)⟩
theorem rx_pre (cx : rx_C p m c cc nL s args Ts own D cl tys zs NW A) (hw : rx_W D cl wd A s.heap M H locs) {av : List Value} : ∀ U : State, U.heap = H → s.WarmedH U.vm → va_Pc av (rx_Pre D cl wd tys zs NW H.size M) av.toArray U := fun U hU hW => by
  refine ⟨rfl, by rw [hU], by rw [hU]; exact hw.1, va_K.moved hW.alike cx.2.1, hw.2.1.weaken (fun _ _ _ _ => trivial), ?_, fun w h => rx_nest_warm (cx.2.2.2.2.1 w h) hW (cx.2.2.2.1 w h)⟩
  rw [hU]
  exact (rx_Z.moved hW.alike (cx.2.2.1.kept (fun a h1 h2 => hw.2.2.2.1 a h1 h2))).narrow (rx_frees cx hw)
section CALLS
variable {y : MethodName} {bytes : ByteArray} {maxL n index : Nat} {ret : Option FieldType} {ws : List Cond} {rm : Room} {C host : String} {As : List Value} {f : Me → Op} {o : Int32 × Me} {r : Int32} {M1 : Me} {a q0 ci : Nat} {qc : vw_C}
theorem rx_endi (cx : rx_C p m c cc nL s args Ts own D cl tys zs NW A) (hw : rx_W D cl wd A s.heap M H locs) {st0 : List Value} {av : Array Value} (hr : va_Run p l e R s m args below meth c H locs cells slots 0 0 (F0 m pc ls st0) rest (va_Qi (fun r u => r = o.1 ∧ u = o.2) (rx_Post D cl wd tys (va_A (wd M) H.size)) (va_A (wd M) H.size) av) (va_A (wd M) H.size))
    (kk : ∀ (H : Heap) (locs : List Loc), rx_W D cl wd A s.heap o.2 H locs → W p l e R s m args below meth c H locs cells slots Q (F0 m (pc + 3) ls (.int o.1 :: rest))) : W p l e R s m args below meth c H locs cells slots Q (F0 m pc ls st0) := by
  have hFc := rx_frees cx hw
  refine va_calli hr hw.2.2 (fun q _ h => hFc q h) hFc (fun r u t H1 locs1 ht hvm hp hB hz hk hS => ?_)
  obtain ⟨rfl, rfl⟩ := hp
  exact kk H1 locs1 ⟨by rw [← ht]; exact hB.1, hB.2.2.weaken (fun _ _ _ h => hFc _ h), hS⟩
theorem rx_endv (cx : rx_C p m c cc nL s args Ts own D cl tys zs NW A) (hw : rx_W D cl wd A s.heap M H locs) {st0 : List Value} {av : Array Value} (hr : va_Run p l e R s m args below meth c H locs cells slots 0 0 (F0 m pc ls st0) rest (va_Qv (fun u => u = o.2) (rx_Post D cl wd tys (va_A (wd M) H.size)) (va_A (wd M) H.size) av) (va_A (wd M) H.size))
    (kk : ∀ (H : Heap) (locs : List Loc), rx_W D cl wd A s.heap o.2 H locs → W p l e R s m args below meth c H locs cells slots Q (F0 m (pc + 3) ls rest)) : W p l e R s m args below meth c H locs cells slots Q (F0 m pc ls st0) := by
  have hFc := rx_frees cx hw
  refine va_callv hr hw.2.2 (fun q _ h => hFc q h) hFc (fun u t H1 locs1 ht hvm hp hB hz hk hS => ?_)
  obtain rfl := hp
  exact kk H1 locs1 ⟨by rw [← ht]; exact hB.1, hB.2.2.weaken (fun _ _ _ h => hFc _ h), hS⟩
theorem rx_cVNi (cx : rx_C p m c cc nL s args Ts own D cl tys zs NW A) (hw : rx_W D cl wd A s.heap M H locs) (hM : rx_MI l y ws rm D cl wd tys zs NW (.ref a :: As) f) (ho : rx_ob wd a q0 ci) (hc : cl[ci]? = some qc) (hC : qc.1 = C) (cw : va_CN R s args own index y host bytes maxL ret ws rm 0 0 n ∧ (Cond.instanceMethod y).before args s = true ∧ (Cond.selects C y y).before args s = true) (hn : As.length = n) (hsz : ls.size = nL) (hst : (rest.map fun v => v.category).sum ≤ 8) (hcs : cells ≤ R.cells ∧ slots ≤ R.slots) (hdg : decode cc pc = .ok (.invokevirtual index, 3)) {st0 : List Value} (hstk : st0 = As.reverse ++ .ref a :: rest) (hf : f M = some (r, M1))
    (kk : ∀ (H : Heap) (locs : List Loc), rx_W D cl wd A s.heap M1 H locs → W p l e R s m args below meth c H locs cells slots Q (F0 m (pc + 3) ls (.int r :: rest))) : W p l e R s m args below meth c H locs cells slots Q (F0 m pc ls st0) := by
  obtain ⟨fs, hfs⟩ := ho
  exact rx_endi (o := (r, M1)) cx hw (va_runVN cx.1 (hM H.size M (r, M1) hf) cw ⟨rx_blind cx.2.2.2.2.1, hC ▸ va_recv cx.2.1 hw.1 hc (hfs M), rx_pre cx hw⟩ rfl hn hsz hstk (lv_room hst) hdg hcs) kk
theorem rx_cVNv (cx : rx_C p m c cc nL s args Ts own D cl tys zs NW A) (hw : rx_W D cl wd A s.heap M H locs) (hM : rx_MV l y ws rm D cl wd tys zs NW (.ref a :: As) f) (ho : rx_ob wd a q0 ci) (hc : cl[ci]? = some qc) (hC : qc.1 = C) (cw : va_CN R s args own index y host bytes maxL ret ws rm 0 0 n ∧ (Cond.instanceMethod y).before args s = true ∧ (Cond.selects C y y).before args s = true) (hn : As.length = n) (hsz : ls.size = nL) (hst : (rest.map fun v => v.category).sum ≤ 8) (hcs : cells ≤ R.cells ∧ slots ≤ R.slots) (hdg : decode cc pc = .ok (.invokevirtual index, 3)) {st0 : List Value} (hstk : st0 = As.reverse ++ .ref a :: rest) (hf : f M = some (r, M1))
    (kk : ∀ (H : Heap) (locs : List Loc), rx_W D cl wd A s.heap M1 H locs → W p l e R s m args below meth c H locs cells slots Q (F0 m (pc + 3) ls rest)) : W p l e R s m args below meth c H locs cells slots Q (F0 m pc ls st0) := by
  obtain ⟨fs, hfs⟩ := ho
  exact rx_endv (o := (r, M1)) cx hw (va_runVN cx.1 (hM H.size M (r, M1) hf) cw ⟨rx_blind cx.2.2.2.2.1, hC ▸ va_recv cx.2.1 hw.1 hc (hfs M), rx_pre cx hw⟩ rfl hn hsz hstk (lv_room hst) hdg hcs) kk
theorem rx_cVi (cx : rx_C p m c cc nL s args Ts own D cl tys zs NW A) (hw : rx_W D cl wd A s.heap M H locs) (hM : rx_MI l y ws rm D cl wd tys zs NW (.ref a :: As) f) (ho : rx_ob wd a q0 ci) (hc : cl[ci]? = some qc) (hC : qc.1 = C) (cw : CallW R s args own C index y bytes maxL ret ws rm 0 0 n) (hn : As.length = n) (hsz : ls.size = nL) (hst : (rest.map fun v => v.category).sum ≤ 8) (hcs : cells ≤ R.cells ∧ slots ≤ R.slots) (hdg : decode cc pc = .ok (.invokevirtual index, 3)) {st0 : List Value} (hstk : st0 = As.reverse ++ .ref a :: rest) (hf : f M = some (r, M1))
    (kk : ∀ (H : Heap) (locs : List Loc), rx_W D cl wd A s.heap M1 H locs → W p l e R s m args below meth c H locs cells slots Q (F0 m (pc + 3) ls (.int r :: rest))) : W p l e R s m args below meth c H locs cells slots Q (F0 m pc ls st0) := by
  obtain ⟨fs, hfs⟩ := ho
  exact rx_endi (o := (r, M1)) cx hw (va_runV cx.1 (hM H.size M (r, M1) hf) cw ⟨rx_blind cx.2.2.2.2.1, hC ▸ va_recv cx.2.1 hw.1 hc (hfs M), rx_pre cx hw⟩ rfl hn hsz hstk (lv_room hst) hdg hcs) kk
theorem rx_cVv (cx : rx_C p m c cc nL s args Ts own D cl tys zs NW A) (hw : rx_W D cl wd A s.heap M H locs) (hM : rx_MV l y ws rm D cl wd tys zs NW (.ref a :: As) f) (ho : rx_ob wd a q0 ci) (hc : cl[ci]? = some qc) (hC : qc.1 = C) (cw : CallW R s args own C index y bytes maxL ret ws rm 0 0 n) (hn : As.length = n) (hsz : ls.size = nL) (hst : (rest.map fun v => v.category).sum ≤ 8) (hcs : cells ≤ R.cells ∧ slots ≤ R.slots) (hdg : decode cc pc = .ok (.invokevirtual index, 3)) {st0 : List Value} (hstk : st0 = As.reverse ++ .ref a :: rest) (hf : f M = some (r, M1))
    (kk : ∀ (H : Heap) (locs : List Loc), rx_W D cl wd A s.heap M1 H locs → W p l e R s m args below meth c H locs cells slots Q (F0 m (pc + 3) ls rest)) : W p l e R s m args below meth c H locs cells slots Q (F0 m pc ls st0) := by
  obtain ⟨fs, hfs⟩ := ho
  exact rx_endv (o := (r, M1)) cx hw (va_runV cx.1 (hM H.size M (r, M1) hf) cw ⟨rx_blind cx.2.2.2.2.1, hC ▸ va_recv cx.2.1 hw.1 hc (hfs M), rx_pre cx hw⟩ rfl hn hsz hstk (lv_room hst) hdg hcs) kk
theorem rx_cSi (cx : rx_C p m c cc nL s args Ts own D cl tys zs NW A) (hw : rx_W D cl wd A s.heap M H locs) (hM : rx_MI l y ws rm D cl wd tys zs NW As f) (cw : CallB R s args own index y bytes maxL ret ws rm 0 0 n ∧ (Cond.static y).before args s = true) (hn : As.length = n) (hsz : ls.size = nL) (hst : (rest.map fun v => v.category).sum ≤ 8) (hcs : cells ≤ R.cells ∧ slots ≤ R.slots) (hdg : decode cc pc = .ok (.invokestatic index, 3)) {st0 : List Value} (hstk : st0 = As.reverse ++ rest) (hf : f M = some (r, M1))
    (kk : ∀ (H : Heap) (locs : List Loc), rx_W D cl wd A s.heap M1 H locs → W p l e R s m args below meth c H locs cells slots Q (F0 m (pc + 3) ls (.int r :: rest))) : W p l e R s m args below meth c H locs cells slots Q (F0 m pc ls st0) :=
  rx_endi (o := (r, M1)) cx hw (va_runS cx.1 (hM H.size M (r, M1) hf) cw ⟨rx_blind cx.2.2.2.2.1, rx_pre cx hw⟩ rfl hn hsz hstk (lv_room hst) hdg hcs) kk
theorem rx_cSv (cx : rx_C p m c cc nL s args Ts own D cl tys zs NW A) (hw : rx_W D cl wd A s.heap M H locs) (hM : rx_MV l y ws rm D cl wd tys zs NW As f) (cw : CallB R s args own index y bytes maxL ret ws rm 0 0 n ∧ (Cond.static y).before args s = true) (hn : As.length = n) (hsz : ls.size = nL) (hst : (rest.map fun v => v.category).sum ≤ 8) (hcs : cells ≤ R.cells ∧ slots ≤ R.slots) (hdg : decode cc pc = .ok (.invokestatic index, 3)) {st0 : List Value} (hstk : st0 = As.reverse ++ rest) (hf : f M = some (r, M1))
    (kk : ∀ (H : Heap) (locs : List Loc), rx_W D cl wd A s.heap M1 H locs → W p l e R s m args below meth c H locs cells slots Q (F0 m (pc + 3) ls rest)) : W p l e R s m args below meth c H locs cells slots Q (F0 m pc ls st0) :=
  rx_endv (o := (r, M1)) cx hw (va_runS cx.1 (hM H.size M (r, M1) hf) cw ⟨rx_blind cx.2.2.2.2.1, rx_pre cx hw⟩ rfl hn hsz hstk (lv_room hst) hdg hcs) kk
theorem rx_cSNi (cx : rx_C p m c cc nL s args Ts own D cl tys zs NW A) (hw : rx_W D cl wd A s.heap M H locs) (hM : rx_MI l y ws rm D cl wd tys zs NW As f) (cw : va_CN R s args own index y host bytes maxL ret ws rm 0 0 n ∧ (Cond.static y).before args s = true ∧ True) (hn : As.length = n) (hsz : ls.size = nL) (hst : (rest.map fun v => v.category).sum ≤ 8) (hcs : cells ≤ R.cells ∧ slots ≤ R.slots) (hdg : decode cc pc = .ok (.invokestatic index, 3)) {st0 : List Value} (hstk : st0 = As.reverse ++ rest) (hf : f M = some (r, M1))
    (kk : ∀ (H : Heap) (locs : List Loc), rx_W D cl wd A s.heap M1 H locs → W p l e R s m args below meth c H locs cells slots Q (F0 m (pc + 3) ls (.int r :: rest))) : W p l e R s m args below meth c H locs cells slots Q (F0 m pc ls st0) :=
  rx_endi (o := (r, M1)) cx hw (va_runSN cx.1 (hM H.size M (r, M1) hf) cw ⟨rx_blind cx.2.2.2.2.1, rx_pre cx hw⟩ rfl hn hsz hstk (lv_room hst) hdg hcs) kk
end CALLS
/-- the ends of a method -/
def rx_RI (p : Program) (l : Launch) (e : Env) (R : Room) (s : State) (m : MethodId) (args : Array Value) (below : List Frame) (meth : Method) (c : Code) (cc : ByteArray) (D : va_G) (cl : List vw_C) (wd : Me → va_W) (A : Nat → Prop) (Q : State → Prop) (o : Int32 × Me) : Prop := ∀ (pc : Nat) (ls : Array Slot) (H : Heap) (locs : List Loc), rx_W D cl wd A s.heap o.2 H locs → decode cc pc = .ok (.ireturn, 1) → W p l e R s m args below meth c H locs 0 0 Q (F0 m pc ls [.int o.1])
def rx_RZ (p : Program) (l : Launch) (e : Env) (R : Room) (s : State) (m : MethodId) (args : Array Value) (below : List Frame) (meth : Method) (c : Code) (cc : ByteArray) (D : va_G) (cl : List vw_C) (wd : Me → va_W) (A : Nat → Prop) (Q : State → Prop) (o : Int32 × Me) : Prop := ∀ (pc : Nat) (ls : Array Slot) (H : Heap) (locs : List Loc), rx_W D cl wd A s.heap o.2 H locs → (o.1 = 0 ∨ o.1 = 1) → decode cc pc = .ok (.ireturn, 1) → W p l e R s m args below meth c H locs 0 0 Q (F0 m pc ls [.int o.1])
def rx_RV (p : Program) (l : Launch) (e : Env) (R : Room) (s : State) (m : MethodId) (args : Array Value) (below : List Frame) (meth : Method) (c : Code) (cc : ByteArray) (D : va_G) (cl : List vw_C) (wd : Me → va_W) (A : Nat → Prop) (Q : State → Prop) (o : Int32 × Me) : Prop := ∀ (pc : Nat) (ls : Array Slot) (H : Heap) (locs : List Loc), rx_W D cl wd A s.heap o.2 H locs → decode cc pc = .ok (.return_, 1) → W p l e R s m args below meth c H locs 0 0 Q (F0 m pc ls [])
theorem rx_reti {o : Int32 × Me} {r : Int32} (hret : rx_RI p l e R s m args below meth c cc D cl wd A Q o) (hw : rx_W D cl wd A s.heap M H locs) (hf : some (r, M) = some o) (hdg : decode cc pc = .ok (.ireturn, 1)) : W p l e R s m args below meth c H locs 0 0 Q (F0 m pc ls [.int r]) := by
  cases hf
  exact hret pc ls H locs hw hdg
theorem rx_retz {o : Int32 × Me} {r : Int32} (hret : rx_RZ p l e R s m args below meth c cc D cl wd A Q o) (hw : rx_W D cl wd A s.heap M H locs) (hf : rx_zb r (some (r, M)) = some o) (hdg : decode cc pc = .ok (.ireturn, 1)) : W p l e R s m args below meth c H locs 0 0 Q (F0 m pc ls [.int r]) := by
  obtain ⟨h, hf⟩ := rx_zbI hf
  cases hf
  exact hret pc ls H locs hw h hdg
theorem rx_retv {o : Int32 × Me} {r : Int32} (hret : rx_RV p l e R s m args below meth c cc D cl wd A Q o) (hw : rx_W D cl wd A s.heap M H locs) (hf : some (r, M) = some o) (hdg : decode cc pc = .ok (.return_, 1)) : W p l e R s m args below meth c H locs 0 0 Q (F0 m pc ls []) := by
  cases hf
  exact hret pc ls H locs hw hdg
end RX
section RM
variable {l : Launch} {D : va_G} {cl : List vw_C} {tys : List (ClassId × FieldType)} {wd : Me → va_W} {zs : rx_zt} {NW ws ws' : List Cond} {y : MethodName} {cc : ByteArray} {maxL : Nat} {rm : Room} {av : List Value} {f : Me → Op}
theorem rx_Zin {A : Nat → Prop} {zs : rx_zt} {U : State} {H : Heap} (h : rx_Z zs A U H) : rx_Z zs A U H := h
theorem rx_ofI (hy : plainName y.cls = true) (hw : ws = Cond.code y cc maxL (some .int) :: ws') (hn : ∀ w ∈ NW, rx_nest w = true) (hav : (lg_sl av).length ≤ maxL)
    (body : ∀ (p : Program) (e : Env) (s : State) (m : MethodId) (args : Array Value) (below : List Frame) (meth : Method) (c : Code) (A : Nat → Prop) (Q : State → Prop) (M : Me) (o : Int32 × Me) (ls : Array Slot), rx_C p m c cc maxL s args ws y.cls D cl tys zs NW A → rx_RI p l e rm s m args below meth c cc D cl wd A Q o → rx_W D cl wd A s.heap M s.heap [] → lv_has ls maxL (lv_args 0 av) → f M = some o → W p l e rm s m args below meth c s.heap [] 0 0 Q (F0 m 0 ls [])) : rx_MI l y ws rm D cl wd tys zs NW av f := by
  intro sz M o hf
  refine Met.ofW (cc := cc) (maxL := maxL) (ret := some .int) hy hw ?_
  intro p e s m args below meth c s₁ B hml hv
  obtain ⟨rfl, rfl, hP, hK, hD0, hZ, hN⟩ := hv
  have hl := lv_entry av (n := maxL) hav
  rw [lg_entry_eq]
  have hlocks := B.notSynchronized
  have hr := B.returns
  refine body p e s m _ below meth c (va_A (wd M) s.heap.size) _ M o _ ⟨⟨B.exec, B.bytes, hml, findClass_of_methodNamed B.named, atoms_spec (ws := ws) B.pre⟩, hK, hZ, hN, hn, fun q h => Or.inr h⟩ ?_ ⟨hP, hD0.self, va_S.rf⟩ hl hf
  intro pc ls H locs hw hd
  exact W.iret B.exec B.bytes hr (fun t ht hW => ⟨⟨o.1, o.2, rfl, ⟨rfl, rfl⟩, by rw [ht]; exact hw.1, va_K.moved hW.alike hK, hw.2.1⟩, hw.2.2.F ht⟩) hw.2.2.2.2 hd
theorem rx_nz {r : Int32} (h : r = 0 ∨ r = 1) : narrow .boolean (.int r) = .int r := by
  rcases h with rfl | rfl <;> rfl
theorem rx_ofZ (hy : plainName y.cls = true) (hw : ws = Cond.code y cc maxL (some .boolean) :: ws') (hn : ∀ w ∈ NW, rx_nest w = true) (hav : (lg_sl av).length ≤ maxL)
    (body : ∀ (p : Program) (e : Env) (s : State) (m : MethodId) (args : Array Value) (below : List Frame) (meth : Method) (c : Code) (A : Nat → Prop) (Q : State → Prop) (M : Me) (o : Int32 × Me) (ls : Array Slot), rx_C p m c cc maxL s args ws y.cls D cl tys zs NW A → rx_RZ p l e rm s m args below meth c cc D cl wd A Q o → rx_W D cl wd A s.heap M s.heap [] → lv_has ls maxL (lv_args 0 av) → f M = some o → W p l e rm s m args below meth c s.heap [] 0 0 Q (F0 m 0 ls [])) : rx_MI l y ws rm D cl wd tys zs NW av f := by
  intro sz M o hf
  refine Met.ofW (cc := cc) (maxL := maxL) (ret := some .boolean) hy hw ?_
  intro p e s m args below meth c s₁ B hml hv
  obtain ⟨rfl, rfl, hP, hK, hD0, hZ, hN⟩ := hv
  have hl := lv_entry av (n := maxL) hav
  rw [lg_entry_eq]
  have hlocks := B.notSynchronized
  have hr := B.returns
  refine body p e s m _ below meth c (va_A (wd M) s.heap.size) _ M o _ ⟨⟨B.exec, B.bytes, hml, findClass_of_methodNamed B.named, atoms_spec (ws := ws) B.pre⟩, hK, hZ, hN, hn, fun q h => Or.inr h⟩ ?_ ⟨hP, hD0.self, va_S.rf⟩ hl hf
  intro pc ls H locs hw ho hd
  exact W.zret B.exec B.bytes hr (rx_nz ho) (fun t ht hW => ⟨⟨o.1, o.2, rfl, ⟨rfl, rfl⟩, by rw [ht]; exact hw.1, va_K.moved hW.alike hK, hw.2.1⟩, hw.2.2.F ht⟩) hw.2.2.2.2 hd
theorem rx_ofV (hy : plainName y.cls = true) (hw : ws = Cond.code y cc maxL none :: ws') (hn : ∀ w ∈ NW, rx_nest w = true) (hav : (lg_sl av).length ≤ maxL)
    (body : ∀ (p : Program) (e : Env) (s : State) (m : MethodId) (args : Array Value) (below : List Frame) (meth : Method) (c : Code) (A : Nat → Prop) (Q : State → Prop) (M : Me) (o : Int32 × Me) (ls : Array Slot), rx_C p m c cc maxL s args ws y.cls D cl tys zs NW A → rx_RV p l e rm s m args below meth c cc D cl wd A Q o → rx_W D cl wd A s.heap M s.heap [] → lv_has ls maxL (lv_args 0 av) → f M = some o → W p l e rm s m args below meth c s.heap [] 0 0 Q (F0 m 0 ls [])) : rx_MV l y ws rm D cl wd tys zs NW av f := by
  intro sz M o hf
  refine Met.ofW (cc := cc) (maxL := maxL) (ret := none) hy hw ?_
  intro p e s m args below meth c s₁ B hml hv
  obtain ⟨rfl, rfl, hP, hK, hD0, hZ, hN⟩ := hv
  have hl := lv_entry av (n := maxL) hav
  rw [lg_entry_eq]
  have hlocks := B.notSynchronized
  have hr := B.returns
  refine body p e s m _ below meth c (va_A (wd M) s.heap.size) _ M o _ ⟨⟨B.exec, B.bytes, hml, findClass_of_methodNamed B.named, atoms_spec (ws := ws) B.pre⟩, hK, hZ, hN, hn, fun q h => Or.inr h⟩ ?_ ⟨hP, hD0.self, va_S.rf⟩ hl hf
  intro pc ls H locs hw hd
  exact W.vret B.exec B.bytes hr (fun t ht hW => ⟨⟨o.2, rfl, rfl, by rw [ht]; exact hw.1, va_K.moved hW.alike hK, hw.2.1⟩, hw.2.2.F ht⟩) hw.2.2.2.2 hd
end RM
theorem rx_goodA {kw k2 : Cond} (h : k2 ∈ wA) : GoodIn (kw :: wA) (k2 :: wA) := fun w hw => (List.mem_cons.mp hw).elim (fun e => by rw [e]; exact ⟨.tail _ h, good_of_word (List.mem_filter.mp h).2⟩) (fun h => ⟨.tail _ h, good_of_word (List.mem_filter.mp h).2⟩)
section RJ
variable {p : Program} {l : Launch} {e : Env} {R : Room} {s : State} {m : MethodId} {args : Array Value} {below : List Frame} {meth : Method} {c : Code} {H : Heap} {locs : List Loc} {cells slots : Nat} {Q : State → Prop} {cc : ByteArray} {pc nL : Nat} {ls : Array Slot} {rest : List Value} {D : va_G} {cl : List vw_C} {A : Nat → Prop} {tys : List (ClassId × FieldType)} {wd : Me → va_W} {zs : rx_zt} {kw : Cond} {own : String} {M : Me}
variable {y : MethodName} {bytes : ByteArray} {maxL n index : Nat} {ret : Option FieldType} {rm : Room} {host : String} {As : List Value} {f : Me → Op} {r : Int32} {M1 : Me} {a q0 ci : Nat} {qc : vw_C}
theorem rx_kVN (cx : rx_C p m c cc nL s args (kw :: wA) own D cl tys zs wN A) (kf : rx_KV y bytes maxL ret n) (hlk : Cond.methodLinkNest own index y host ∈ wN) (hR : rm.frames + 1 ≤ R.frames ∧ 8 + (maxL + 11) + rm.locals ≤ R.locals ∧ rm.cells = 0 ∧ rm.slots = 0) : va_CN R s args own index y host bytes maxL ret (Cond.code y bytes maxL ret :: wA) rm 0 0 n ∧ (Cond.instanceMethod y).before args s = true ∧ (Cond.selects y.cls y y).before args s = true :=
  ⟨va_cnB n cx.1.2.2.2.2 (rx_goodA kf.1) rfl hR.2.2.1 hR.2.2.2 (cx.2.2.2.1 _ hlk) (cx.1.2.2.2.2 _ (.tail _ kf.2.1)) kf.2.2.1 ⟨hR.1, hR.2.1⟩, cx.1.2.2.2.2 _ (.tail _ kf.2.2.2.1), cx.1.2.2.2.2 _ (.tail _ kf.2.2.2.2)⟩
theorem rx_kV (cx : rx_C p m c cc nL s args (kw :: wA) own D cl tys zs wN A) (kf : rx_KV y bytes maxL ret n) (hlk : Cond.methodLink own index y ∈ wA) (hR : rm.frames + 1 ≤ R.frames ∧ 8 + (maxL + 11) + rm.locals ≤ R.locals ∧ rm.cells = 0 ∧ rm.slots = 0) : CallW R s args own y.cls index y bytes maxL ret (Cond.code y bytes maxL ret :: wA) rm 0 0 n :=
  ⟨callB_of n cx.1.2.2.2.2 (rx_goodA kf.1) rfl hR.2.2.1 hR.2.2.2 (cx.1.2.2.2.2 _ (.tail _ kf.2.1)) (cx.1.2.2.2.2 _ (.tail _ hlk)) kf.2.2.1 ⟨hR.1, hR.2.1⟩, cx.1.2.2.2.2 _ (.tail _ kf.2.2.2.1), cx.1.2.2.2.2 _ (.tail _ kf.2.2.2.2)⟩
theorem rx_kS (cx : rx_C p m c cc nL s args (kw :: wA) own D cl tys zs wN A) (kf : rx_KS y bytes maxL ret n) (hlk : Cond.methodLink own index y ∈ wA) (hR : rm.frames + 1 ≤ R.frames ∧ 8 + (maxL + 11) + rm.locals ≤ R.locals ∧ rm.cells = 0 ∧ rm.slots = 0) : CallB R s args own index y bytes maxL ret (Cond.code y bytes maxL ret :: wA) rm 0 0 n ∧ (Cond.static y).before args s = true :=
  ⟨callB_of n cx.1.2.2.2.2 (rx_goodA kf.1) rfl hR.2.2.1 hR.2.2.2 (cx.1.2.2.2.2 _ (.tail _ kf.2.1)) (cx.1.2.2.2.2 _ (.tail _ hlk)) kf.2.2.1 ⟨hR.1, hR.2.1⟩, cx.1.2.2.2.2 _ (.tail _ kf.2.2.2)⟩
theorem rx_kSN (cx : rx_C p m c cc nL s args (kw :: wA) own D cl tys zs wN A) (kf : rx_KS y bytes maxL ret n) (hlk : Cond.methodLinkNest own index y host ∈ wN) (hR : rm.frames + 1 ≤ R.frames ∧ 8 + (maxL + 11) + rm.locals ≤ R.locals ∧ rm.cells = 0 ∧ rm.slots = 0) : va_CN R s args own index y host bytes maxL ret (Cond.code y bytes maxL ret :: wA) rm 0 0 n ∧ (Cond.static y).before args s = true ∧ True :=
  ⟨va_cnB n cx.1.2.2.2.2 (rx_goodA kf.1) rfl hR.2.2.1 hR.2.2.2 (cx.2.2.2.1 _ hlk) (cx.1.2.2.2.2 _ (.tail _ kf.2.1)) kf.2.2.1 ⟨hR.1, hR.2.1⟩, cx.1.2.2.2.2 _ (.tail _ kf.2.2.2), trivial⟩
theorem rx_jVNi (cx : rx_C p m c cc nL s args (kw :: wA) own D cl tys zs wN A) (hw : rx_W D cl wd A s.heap M H locs) (hM : rx_MI l y (Cond.code y bytes maxL ret :: wA) rm D cl wd tys zs wN (.ref a :: As) f) (ho : rx_ob wd a q0 ci) (hc : cl[ci]? = some qc) (hC : qc.1 = y.cls) (kf : rx_KV y bytes maxL ret n) (hlk : Cond.methodLinkNest own index y host ∈ wN) (hR : rm.frames + 1 ≤ R.frames ∧ 8 + (maxL + 11) + rm.locals ≤ R.locals ∧ rm.cells = 0 ∧ rm.slots = 0) (hn : As.length = n) (hsz : ls.size = nL) (hst : (rest.map fun v => v.category).sum ≤ 8) (hcs : cells ≤ R.cells ∧ slots ≤ R.slots) (hdg : decode cc pc = .ok (.invokevirtual index, 3)) {st0 : List Value} (hstk : st0 = As.reverse ++ .ref a :: rest) (hf : f M = some (r, M1))
    (kk : ∀ (H : Heap) (locs : List Loc), rx_W D cl wd A s.heap M1 H locs → W p l e R s m args below meth c H locs cells slots Q (F0 m (pc + 3) ls (.int r :: rest))) : W p l e R s m args below meth c H locs cells slots Q (F0 m pc ls st0) :=
  rx_cVNi cx hw hM ho hc hC (rx_kVN cx kf hlk hR) hn hsz hst hcs hdg hstk hf kk
theorem rx_jVNv (cx : rx_C p m c cc nL s args (kw :: wA) own D cl tys zs wN A) (hw : rx_W D cl wd A s.heap M H locs) (hM : rx_MV l y (Cond.code y bytes maxL ret :: wA) rm D cl wd tys zs wN (.ref a :: As) f) (ho : rx_ob wd a q0 ci) (hc : cl[ci]? = some qc) (hC : qc.1 = y.cls) (kf : rx_KV y bytes maxL ret n) (hlk : Cond.methodLinkNest own index y host ∈ wN) (hR : rm.frames + 1 ≤ R.frames ∧ 8 + (maxL + 11) + rm.locals ≤ R.locals ∧ rm.cells = 0 ∧ rm.slots = 0) (hn : As.length = n) (hsz : ls.size = nL) (hst : (rest.map fun v => v.category).sum ≤ 8) (hcs : cells ≤ R.cells ∧ slots ≤ R.slots) (hdg : decode cc pc = .ok (.invokevirtual index, 3)) {st0 : List Value} (hstk : st0 = As.reverse ++ .ref a :: rest) (hf : f M = some (r, M1))
    (kk : ∀ (H : Heap) (locs : List Loc), rx_W D cl wd A s.heap M1 H locs → W p l e R s m args below meth c H locs cells slots Q (F0 m (pc + 3) ls rest)) : W p l e R s m args below meth c H locs cells slots Q (F0 m pc ls st0) :=
  rx_cVNv cx hw hM ho hc hC (rx_kVN cx kf hlk hR) hn hsz hst hcs hdg hstk hf kk
theorem rx_jVi (cx : rx_C p m c cc nL s args (kw :: wA) own D cl tys zs wN A) (hw : rx_W D cl wd A s.heap M H locs) (hM : rx_MI l y (Cond.code y bytes maxL ret :: wA) rm D cl wd tys zs wN (.ref a :: As) f) (ho : rx_ob wd a q0 ci) (hc : cl[ci]? = some qc) (hC : qc.1 = y.cls) (kf : rx_KV y bytes maxL ret n) (hlk : Cond.methodLink own index y ∈ wA) (hR : rm.frames + 1 ≤ R.frames ∧ 8 + (maxL + 11) + rm.locals ≤ R.locals ∧ rm.cells = 0 ∧ rm.slots = 0) (hn : As.length = n) (hsz : ls.size = nL) (hst : (rest.map fun v => v.category).sum ≤ 8) (hcs : cells ≤ R.cells ∧ slots ≤ R.slots) (hdg : decode cc pc = .ok (.invokevirtual index, 3)) {st0 : List Value} (hstk : st0 = As.reverse ++ .ref a :: rest) (hf : f M = some (r, M1))
    (kk : ∀ (H : Heap) (locs : List Loc), rx_W D cl wd A s.heap M1 H locs → W p l e R s m args below meth c H locs cells slots Q (F0 m (pc + 3) ls (.int r :: rest))) : W p l e R s m args below meth c H locs cells slots Q (F0 m pc ls st0) :=
  rx_cVi cx hw hM ho hc hC (rx_kV cx kf hlk hR) hn hsz hst hcs hdg hstk hf kk
theorem rx_jVv (cx : rx_C p m c cc nL s args (kw :: wA) own D cl tys zs wN A) (hw : rx_W D cl wd A s.heap M H locs) (hM : rx_MV l y (Cond.code y bytes maxL ret :: wA) rm D cl wd tys zs wN (.ref a :: As) f) (ho : rx_ob wd a q0 ci) (hc : cl[ci]? = some qc) (hC : qc.1 = y.cls) (kf : rx_KV y bytes maxL ret n) (hlk : Cond.methodLink own index y ∈ wA) (hR : rm.frames + 1 ≤ R.frames ∧ 8 + (maxL + 11) + rm.locals ≤ R.locals ∧ rm.cells = 0 ∧ rm.slots = 0) (hn : As.length = n) (hsz : ls.size = nL) (hst : (rest.map fun v => v.category).sum ≤ 8) (hcs : cells ≤ R.cells ∧ slots ≤ R.slots) (hdg : decode cc pc = .ok (.invokevirtual index, 3)) {st0 : List Value} (hstk : st0 = As.reverse ++ .ref a :: rest) (hf : f M = some (r, M1))
    (kk : ∀ (H : Heap) (locs : List Loc), rx_W D cl wd A s.heap M1 H locs → W p l e R s m args below meth c H locs cells slots Q (F0 m (pc + 3) ls rest)) : W p l e R s m args below meth c H locs cells slots Q (F0 m pc ls st0) :=
  rx_cVv cx hw hM ho hc hC (rx_kV cx kf hlk hR) hn hsz hst hcs hdg hstk hf kk
theorem rx_jSNi (cx : rx_C p m c cc nL s args (kw :: wA) own D cl tys zs wN A) (hw : rx_W D cl wd A s.heap M H locs) (hM : rx_MI l y (Cond.code y bytes maxL ret :: wA) rm D cl wd tys zs wN As f) (kf : rx_KS y bytes maxL ret n) (hlk : Cond.methodLinkNest own index y host ∈ wN) (hR : rm.frames + 1 ≤ R.frames ∧ 8 + (maxL + 11) + rm.locals ≤ R.locals ∧ rm.cells = 0 ∧ rm.slots = 0) (hn : As.length = n) (hsz : ls.size = nL) (hst : (rest.map fun v => v.category).sum ≤ 8) (hcs : cells ≤ R.cells ∧ slots ≤ R.slots) (hdg : decode cc pc = .ok (.invokestatic index, 3)) {st0 : List Value} (hstk : st0 = As.reverse ++ rest) (hf : f M = some (r, M1))
    (kk : ∀ (H : Heap) (locs : List Loc), rx_W D cl wd A s.heap M1 H locs → W p l e R s m args below meth c H locs cells slots Q (F0 m (pc + 3) ls (.int r :: rest))) : W p l e R s m args below meth c H locs cells slots Q (F0 m pc ls st0) :=
  rx_cSNi cx hw hM (rx_kSN cx kf hlk hR) hn hsz hst hcs hdg hstk hf kk
theorem rx_jSi (cx : rx_C p m c cc nL s args (kw :: wA) own D cl tys zs wN A) (hw : rx_W D cl wd A s.heap M H locs) (hM : rx_MI l y (Cond.code y bytes maxL ret :: wA) rm D cl wd tys zs wN As f) (kf : rx_KS y bytes maxL ret n) (hlk : Cond.methodLink own index y ∈ wA) (hR : rm.frames + 1 ≤ R.frames ∧ 8 + (maxL + 11) + rm.locals ≤ R.locals ∧ rm.cells = 0 ∧ rm.slots = 0) (hn : As.length = n) (hsz : ls.size = nL) (hst : (rest.map fun v => v.category).sum ≤ 8) (hcs : cells ≤ R.cells ∧ slots ≤ R.slots) (hdg : decode cc pc = .ok (.invokestatic index, 3)) {st0 : List Value} (hstk : st0 = As.reverse ++ rest) (hf : f M = some (r, M1))
    (kk : ∀ (H : Heap) (locs : List Loc), rx_W D cl wd A s.heap M1 H locs → W p l e R s m args below meth c H locs cells slots Q (F0 m (pc + 3) ls (.int r :: rest))) : W p l e R s m args below meth c H locs cells slots Q (F0 m pc ls st0) :=
  rx_cSi cx hw hM (rx_kS cx kf hlk hR) hn hsz hst hcs hdg hstk hf kk
theorem rx_jSv (cx : rx_C p m c cc nL s args (kw :: wA) own D cl tys zs wN A) (hw : rx_W D cl wd A s.heap M H locs) (hM : rx_MV l y (Cond.code y bytes maxL ret :: wA) rm D cl wd tys zs wN As f) (kf : rx_KS y bytes maxL ret n) (hlk : Cond.methodLink own index y ∈ wA) (hR : rm.frames + 1 ≤ R.frames ∧ 8 + (maxL + 11) + rm.locals ≤ R.locals ∧ rm.cells = 0 ∧ rm.slots = 0) (hn : As.length = n) (hsz : ls.size = nL) (hst : (rest.map fun v => v.category).sum ≤ 8) (hcs : cells ≤ R.cells ∧ slots ≤ R.slots) (hdg : decode cc pc = .ok (.invokestatic index, 3)) {st0 : List Value} (hstk : st0 = As.reverse ++ rest) (hf : f M = some (r, M1))
    (kk : ∀ (H : Heap) (locs : List Loc), rx_W D cl wd A s.heap M1 H locs → W p l e R s m args below meth c H locs cells slots Q (F0 m (pc + 3) ls rest)) : W p l e R s m args below meth c H locs cells slots Q (F0 m pc ls st0) :=
  rx_cSv cx hw hM (rx_kS cx kf hlk hR) hn hsz hst hcs hdg hstk hf kk
end RJ
end
