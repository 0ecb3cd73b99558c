-- ===== PART A: goes FIRST, ahead of the names: the tables' words, and 'selects' of the private methods out of them =====
/-- a private method of a class that the tables say can be made, by its rows of tables_1 -/
def lw_okq (q : MethodName × Nat) : Prop := (q.1.cls ≠ "java/lang/invoke/MethodHandle" ∧ q.1.cls ≠ "java/lang/invoke/VarHandle") ∧ Cond.instantiable q.1.cls q.2 ∈ tables_1 ∧ Cond.privateMethod q.1 ∈ tables_1 ∧ Cond.instanceMethod q.1 ∈ tables_1
theorem lw_p0 : lw_okq (⟨"EachIsHit", "tableOf", "(ILEachIsHit$Family;)LEachIsHit$Table;"⟩, 11) := ⟨⟨by decide +kernel, by decide +kernel⟩, List.mem_of_getElem? (i := 16) (by decide +kernel), List.mem_of_getElem? (i := 397) (by decide +kernel), List.mem_of_getElem? (i := 398) (by decide +kernel)⟩
theorem lw_p1 : lw_okq (⟨"EachIsHit", "findDual", "(LEachIsHit$Family;)V"⟩, 11) := ⟨⟨by decide +kernel, by decide +kernel⟩, List.mem_of_getElem? (i := 16) (by decide +kernel), List.mem_of_getElem? (i := 423) (by decide +kernel), List.mem_of_getElem? (i := 424) (by decide +kernel)⟩
theorem lw_p2 : lw_okq (⟨"EachIsHit$Walk", "visit", "(III)V"⟩, 10) := ⟨⟨by decide +kernel, by decide +kernel⟩, List.mem_of_getElem? (i := 152) (by decide +kernel), List.mem_of_getElem? (i := 527) (by decide +kernel), List.mem_of_getElem? (i := 528) (by decide +kernel)⟩
theorem lw_p3 : lw_okq (⟨"EachIsHit$Walk", "keepWithout", "(III)I"⟩, 10) := ⟨⟨by decide +kernel, by decide +kernel⟩, List.mem_of_getElem? (i := 152) (by decide +kernel), List.mem_of_getElem? (i := 533) (by decide +kernel), List.mem_of_getElem? (i := 534) (by decide +kernel)⟩
theorem lw_p4 : lw_okq (⟨"EachIsHit$Walk", "keepReduced", "(III)I"⟩, 10) := ⟨⟨by decide +kernel, by decide +kernel⟩, List.mem_of_getElem? (i := 152) (by decide +kernel), List.mem_of_getElem? (i := 538) (by decide +kernel), List.mem_of_getElem? (i := 539) (by decide +kernel)⟩
theorem lw_p5 : lw_okq (⟨"EachIsHit$Table", "commonWord", "(LEachIsHit$Family;II)J"⟩, 2) := ⟨⟨by decide +kernel, by decide +kernel⟩, List.mem_of_getElem? (i := 201) (by decide +kernel), List.mem_of_getElem? (i := 574) (by decide +kernel), List.mem_of_getElem? (i := 575) (by decide +kernel)⟩
theorem lw_p6 : lw_okq (⟨"EachIsHit", "fillSpare", "(III)Z"⟩, 11) := ⟨⟨by decide +kernel, by decide +kernel⟩, List.mem_of_getElem? (i := 16) (by decide +kernel), List.mem_of_getElem? (i := 591) (by decide +kernel), List.mem_of_getElem? (i := 592) (by decide +kernel)⟩
theorem lw_p7 : lw_okq (⟨"EachIsHit", "isNoRule", "(I)Z"⟩, 11) := ⟨⟨by decide +kernel, by decide +kernel⟩, List.mem_of_getElem? (i := 16) (by decide +kernel), List.mem_of_getElem? (i := 615) (by decide +kernel), List.mem_of_getElem? (i := 616) (by decide +kernel)⟩
theorem lw_p8 : lw_okq (⟨"EachIsHit", "tellsNow", "(II)I"⟩, 11) := ⟨⟨by decide +kernel, by decide +kernel⟩, List.mem_of_getElem? (i := 16) (by decide +kernel), List.mem_of_getElem? (i := 631) (by decide +kernel), List.mem_of_getElem? (i := 632) (by decide +kernel)⟩
theorem lw_p9 : lw_okq (⟨"EachIsHit", "tells", "(III)I"⟩, 11) := ⟨⟨by decide +kernel, by decide +kernel⟩, List.mem_of_getElem? (i := 16) (by decide +kernel), List.mem_of_getElem? (i := 635) (by decide +kernel), List.mem_of_getElem? (i := 636) (by decide +kernel)⟩
theorem lw_p10 : lw_okq (⟨"EachIsHit", "tellsByParts", "(LEachIsHit$Rule;II)I"⟩, 11) := ⟨⟨by decide +kernel, by decide +kernel⟩, List.mem_of_getElem? (i := 16) (by decide +kernel), List.mem_of_getElem? (i := 639) (by decide +kernel), List.mem_of_getElem? (i := 640) (by decide +kernel)⟩
theorem lw_p11 : lw_okq (⟨"EachIsHit", "tellsAlone", "(LEachIsHit$Rule;I)I"⟩, 11) := ⟨⟨by decide +kernel, by decide +kernel⟩, List.mem_of_getElem? (i := 16) (by decide +kernel), List.mem_of_getElem? (i := 648) (by decide +kernel), List.mem_of_getElem? (i := 649) (by decide +kernel)⟩
theorem lw_p12 : lw_okq (⟨"EachIsHit", "rankOf", "(II)I"⟩, 11) := ⟨⟨by decide +kernel, by decide +kernel⟩, List.mem_of_getElem? (i := 16) (by decide +kernel), List.mem_of_getElem? (i := 667) (by decide +kernel), List.mem_of_getElem? (i := 668) (by decide +kernel)⟩
theorem lw_p13 : lw_okq (⟨"EachIsHitModel", "remembers", "(III)V"⟩, 39) := ⟨⟨by decide +kernel, by decide +kernel⟩, List.mem_of_getElem? (i := 744) (by decide +kernel), List.mem_of_getElem? (i := 881) (by decide +kernel), List.mem_of_getElem? (i := 882) (by decide +kernel)⟩
theorem lw_p14 : lw_okq (⟨"EachIsHitModel", "tallyOf", "(II)I"⟩, 39) := ⟨⟨by decide +kernel, by decide +kernel⟩, List.mem_of_getElem? (i := 744) (by decide +kernel), List.mem_of_getElem? (i := 901) (by decide +kernel), List.mem_of_getElem? (i := 902) (by decide +kernel)⟩
theorem lw_p15 : lw_okq (⟨"EachIsHitModel", "placeOf", "(II)I"⟩, 39) := ⟨⟨by decide +kernel, by decide +kernel⟩, List.mem_of_getElem? (i := 744) (by decide +kernel), List.mem_of_getElem? (i := 905) (by decide +kernel), List.mem_of_getElem? (i := 906) (by decide +kernel)⟩
def lw_privs_1 : List (MethodName × Nat) := [(⟨"EachIsHit", "tableOf", "(ILEachIsHit$Family;)LEachIsHit$Table;"⟩, 11), (⟨"EachIsHit", "findDual", "(LEachIsHit$Family;)V"⟩, 11), (⟨"EachIsHit$Walk", "visit", "(III)V"⟩, 10), (⟨"EachIsHit$Walk", "keepWithout", "(III)I"⟩, 10), (⟨"EachIsHit$Walk", "keepReduced", "(III)I"⟩, 10), (⟨"EachIsHit$Table", "commonWord", "(LEachIsHit$Family;II)J"⟩, 2), (⟨"EachIsHit", "fillSpare", "(III)Z"⟩, 11), (⟨"EachIsHit", "isNoRule", "(I)Z"⟩, 11), (⟨"EachIsHit", "tellsNow", "(II)I"⟩, 11), (⟨"EachIsHit", "tells", "(III)I"⟩, 11), (⟨"EachIsHit", "tellsByParts", "(LEachIsHit$Rule;II)I"⟩, 11), (⟨"EachIsHit", "tellsAlone", "(LEachIsHit$Rule;I)I"⟩, 11), (⟨"EachIsHit", "rankOf", "(II)I"⟩, 11), (⟨"EachIsHitModel", "remembers", "(III)V"⟩, 39), (⟨"EachIsHitModel", "tallyOf", "(II)I"⟩, 39), (⟨"EachIsHitModel", "placeOf", "(II)I"⟩, 39)]
theorem lw_r1 : ∀ q ∈ lw_privs_1, lw_okq q := List.forall_mem_cons.mpr ⟨lw_p0, List.forall_mem_cons.mpr ⟨lw_p1, List.forall_mem_cons.mpr ⟨lw_p2, List.forall_mem_cons.mpr ⟨lw_p3, List.forall_mem_cons.mpr ⟨lw_p4, List.forall_mem_cons.mpr ⟨lw_p5, List.forall_mem_cons.mpr ⟨lw_p6, List.forall_mem_cons.mpr ⟨lw_p7, List.forall_mem_cons.mpr ⟨lw_p8, List.forall_mem_cons.mpr ⟨lw_p9, List.forall_mem_cons.mpr ⟨lw_p10, List.forall_mem_cons.mpr ⟨lw_p11, List.forall_mem_cons.mpr ⟨lw_p12, List.forall_mem_cons.mpr ⟨lw_p13, List.forall_mem_cons.mpr ⟨lw_p14, List.forall_mem_cons.mpr ⟨lw_p15, fun _ h => absurd h List.not_mem_nil⟩⟩⟩⟩⟩⟩⟩⟩⟩⟩⟩⟩⟩⟩⟩⟩
theorem lw_p16 : lw_okq (⟨"EachIsHitModel", "setOf", "(II)I"⟩, 39) := ⟨⟨by decide +kernel, by decide +kernel⟩, List.mem_of_getElem? (i := 744) (by decide +kernel), List.mem_of_getElem? (i := 909) (by decide +kernel), List.mem_of_getElem? (i := 910) (by decide +kernel)⟩
theorem lw_p17 : lw_okq (⟨"EachIsHitModel", "tells", "(II)I"⟩, 39) := ⟨⟨by decide +kernel, by decide +kernel⟩, List.mem_of_getElem? (i := 744) (by decide +kernel), List.mem_of_getElem? (i := 913) (by decide +kernel), List.mem_of_getElem? (i := 914) (by decide +kernel)⟩
theorem lw_p18 : lw_okq (⟨"EachIsHitModel", "takes", "(II)I"⟩, 39) := ⟨⟨by decide +kernel, by decide +kernel⟩, List.mem_of_getElem? (i := 744) (by decide +kernel), List.mem_of_getElem? (i := 921) (by decide +kernel), List.mem_of_getElem? (i := 922) (by decide +kernel)⟩
theorem lw_p19 : lw_okq (⟨"EachIsHitModel", "drops", "(II)V"⟩, 39) := ⟨⟨by decide +kernel, by decide +kernel⟩, List.mem_of_getElem? (i := 744) (by decide +kernel), List.mem_of_getElem? (i := 925) (by decide +kernel), List.mem_of_getElem? (i := 926) (by decide +kernel)⟩
theorem lw_p20 : lw_okq (⟨"EachIsHitModel", "oftenIn", "(II)I"⟩, 39) := ⟨⟨by decide +kernel, by decide +kernel⟩, List.mem_of_getElem? (i := 744) (by decide +kernel), List.mem_of_getElem? (i := 957) (by decide +kernel), List.mem_of_getElem? (i := 958) (by decide +kernel)⟩
theorem lw_p21 : lw_okq (⟨"EachIsHitModel", "hasPart", "(II)Z"⟩, 39) := ⟨⟨by decide +kernel, by decide +kernel⟩, List.mem_of_getElem? (i := 744) (by decide +kernel), List.mem_of_getElem? (i := 969) (by decide +kernel), List.mem_of_getElem? (i := 970) (by decide +kernel)⟩
theorem lw_p22 : lw_okq (⟨"EachIsHitModel", "does", "(III)Z"⟩, 39) := ⟨⟨by decide +kernel, by decide +kernel⟩, List.mem_of_getElem? (i := 744) (by decide +kernel), List.mem_of_getElem? (i := 988) (by decide +kernel), List.mem_of_getElem? (i := 989) (by decide +kernel)⟩
theorem lw_p23 : lw_okq (⟨"EachIsHitModel", "wants", "(I)V"⟩, 39) := ⟨⟨by decide +kernel, by decide +kernel⟩, List.mem_of_getElem? (i := 744) (by decide +kernel), List.mem_of_getElem? (i := 992) (by decide +kernel), List.mem_of_getElem? (i := 993) (by decide +kernel)⟩
theorem lw_p24 : lw_okq (⟨"EachIsHitModel", "hits", "(I)I"⟩, 39) := ⟨⟨by decide +kernel, by decide +kernel⟩, List.mem_of_getElem? (i := 744) (by decide +kernel), List.mem_of_getElem? (i := 996) (by decide +kernel), List.mem_of_getElem? (i := 997) (by decide +kernel)⟩
theorem lw_p25 : lw_okq (⟨"EachIsHitModel", "findsDual", "(I)V"⟩, 39) := ⟨⟨by decide +kernel, by decide +kernel⟩, List.mem_of_getElem? (i := 744) (by decide +kernel), List.mem_of_getElem? (i := 1012) (by decide +kernel), List.mem_of_getElem? (i := 1013) (by decide +kernel)⟩
theorem lw_p26 : lw_okq (⟨"EachIsHitModel", "findsLeast", "()V"⟩, 39) := ⟨⟨by decide +kernel, by decide +kernel⟩, List.mem_of_getElem? (i := 744) (by decide +kernel), List.mem_of_getElem? (i := 1016) (by decide +kernel), List.mem_of_getElem? (i := 1017) (by decide +kernel)⟩
theorem lw_p27 : lw_okq (⟨"EachIsHitModel", "leastAt", "(I)I"⟩, 39) := ⟨⟨by decide +kernel, by decide +kernel⟩, List.mem_of_getElem? (i := 744) (by decide +kernel), List.mem_of_getElem? (i := 1020) (by decide +kernel), List.mem_of_getElem? (i := 1021) (by decide +kernel)⟩
theorem lw_p28 : lw_okq (⟨"EachIsHitModel", "findsTree", "(II)V"⟩, 39) := ⟨⟨by decide +kernel, by decide +kernel⟩, List.mem_of_getElem? (i := 744) (by decide +kernel), List.mem_of_getElem? (i := 1037) (by decide +kernel), List.mem_of_getElem? (i := 1038) (by decide +kernel)⟩
theorem lw_p29 : lw_okq (⟨"EachIsHitModel", "thins", "(II)I"⟩, 39) := ⟨⟨by decide +kernel, by decide +kernel⟩, List.mem_of_getElem? (i := 744) (by decide +kernel), List.mem_of_getElem? (i := 1041) (by decide +kernel), List.mem_of_getElem? (i := 1042) (by decide +kernel)⟩
theorem lw_p30 : lw_okq (⟨"EachIsHitModel", "grows", "(III)V"⟩, 39) := ⟨⟨by decide +kernel, by decide +kernel⟩, List.mem_of_getElem? (i := 744) (by decide +kernel), List.mem_of_getElem? (i := 1045) (by decide +kernel), List.mem_of_getElem? (i := 1046) (by decide +kernel)⟩
theorem lw_p31 : lw_okq (⟨"EachIsHitModel", "topOf", "(II)I"⟩, 39) := ⟨⟨by decide +kernel, by decide +kernel⟩, List.mem_of_getElem? (i := 744) (by decide +kernel), List.mem_of_getElem? (i := 1049) (by decide +kernel), List.mem_of_getElem? (i := 1050) (by decide +kernel)⟩
def lw_privs_2 : List (MethodName × Nat) := [(⟨"EachIsHitModel", "setOf", "(II)I"⟩, 39), (⟨"EachIsHitModel", "tells", "(II)I"⟩, 39), (⟨"EachIsHitModel", "takes", "(II)I"⟩, 39), (⟨"EachIsHitModel", "drops", "(II)V"⟩, 39), (⟨"EachIsHitModel", "oftenIn", "(II)I"⟩, 39), (⟨"EachIsHitModel", "hasPart", "(II)Z"⟩, 39), (⟨"EachIsHitModel", "does", "(III)Z"⟩, 39), (⟨"EachIsHitModel", "wants", "(I)V"⟩, 39), (⟨"EachIsHitModel", "hits", "(I)I"⟩, 39), (⟨"EachIsHitModel", "findsDual", "(I)V"⟩, 39), (⟨"EachIsHitModel", "findsLeast", "()V"⟩, 39), (⟨"EachIsHitModel", "leastAt", "(I)I"⟩, 39), (⟨"EachIsHitModel", "findsTree", "(II)V"⟩, 39), (⟨"EachIsHitModel", "thins", "(II)I"⟩, 39), (⟨"EachIsHitModel", "grows", "(III)V"⟩, 39), (⟨"EachIsHitModel", "topOf", "(II)I"⟩, 39)]
theorem lw_r2 : ∀ q ∈ lw_privs_2, lw_okq q := List.forall_mem_cons.mpr ⟨lw_p16, List.forall_mem_cons.mpr ⟨lw_p17, List.forall_mem_cons.mpr ⟨lw_p18, List.forall_mem_cons.mpr ⟨lw_p19, List.forall_mem_cons.mpr ⟨lw_p20, List.forall_mem_cons.mpr ⟨lw_p21, List.forall_mem_cons.mpr ⟨lw_p22, List.forall_mem_cons.mpr ⟨lw_p23, List.forall_mem_cons.mpr ⟨lw_p24, List.forall_mem_cons.mpr ⟨lw_p25, List.forall_mem_cons.mpr ⟨lw_p26, List.forall_mem_cons.mpr ⟨lw_p27, List.forall_mem_cons.mpr ⟨lw_p28, List.forall_mem_cons.mpr ⟨lw_p29, List.forall_mem_cons.mpr ⟨lw_p30, List.forall_mem_cons.mpr ⟨lw_p31, fun _ h => absurd h List.not_mem_nil⟩⟩⟩⟩⟩⟩⟩⟩⟩⟩⟩⟩⟩⟩⟩⟩
theorem lw_p32 : lw_okq (⟨"EachIsHitModel", "supportOf", "(II)I"⟩, 39) := ⟨⟨by decide +kernel, by decide +kernel⟩, List.mem_of_getElem? (i := 744) (by decide +kernel), List.mem_of_getElem? (i := 1068) (by decide +kernel), List.mem_of_getElem? (i := 1069) (by decide +kernel)⟩
theorem lw_p33 : lw_okq (⟨"EachIsHitModel", "isBorder", "(II)Z"⟩, 39) := ⟨⟨by decide +kernel, by decide +kernel⟩, List.mem_of_getElem? (i := 744) (by decide +kernel), List.mem_of_getElem? (i := 1077) (by decide +kernel), List.mem_of_getElem? (i := 1078) (by decide +kernel)⟩
theorem lw_p34 : lw_okq (⟨"EachIsHitModel", "isRule", "(I)Z"⟩, 39) := ⟨⟨by decide +kernel, by decide +kernel⟩, List.mem_of_getElem? (i := 744) (by decide +kernel), List.mem_of_getElem? (i := 1103) (by decide +kernel), List.mem_of_getElem? (i := 1104) (by decide +kernel)⟩
theorem lw_p35 : lw_okq (⟨"EachIsHitModel", "worthOf", "(II)I"⟩, 39) := ⟨⟨by decide +kernel, by decide +kernel⟩, List.mem_of_getElem? (i := 744) (by decide +kernel), List.mem_of_getElem? (i := 1117) (by decide +kernel), List.mem_of_getElem? (i := 1118) (by decide +kernel)⟩
theorem lw_p36 : lw_okq (⟨"EachIsHitModel", "first", "(II)I"⟩, 39) := ⟨⟨by decide +kernel, by decide +kernel⟩, List.mem_of_getElem? (i := 744) (by decide +kernel), List.mem_of_getElem? (i := 1121) (by decide +kernel), List.mem_of_getElem? (i := 1122) (by decide +kernel)⟩
theorem lw_p37 : lw_okq (⟨"EachIsHitModel", "metBy", "(II)I"⟩, 39) := ⟨⟨by decide +kernel, by decide +kernel⟩, List.mem_of_getElem? (i := 744) (by decide +kernel), List.mem_of_getElem? (i := 1125) (by decide +kernel), List.mem_of_getElem? (i := 1126) (by decide +kernel)⟩
theorem lw_p38 : lw_okq (⟨"EachIsHitModel", "wrong", "(II)I"⟩, 39) := ⟨⟨by decide +kernel, by decide +kernel⟩, List.mem_of_getElem? (i := 744) (by decide +kernel), List.mem_of_getElem? (i := 1153) (by decide +kernel), List.mem_of_getElem? (i := 1154) (by decide +kernel)⟩
theorem lw_p39 : lw_okq (⟨"EachIsHitModel", "noLongs", "(I)I"⟩, 39) := ⟨⟨by decide +kernel, by decide +kernel⟩, List.mem_of_getElem? (i := 744) (by decide +kernel), List.mem_of_getElem? (i := 1165) (by decide +kernel), List.mem_of_getElem? (i := 1166) (by decide +kernel)⟩
theorem lw_p40 : lw_okq (⟨"EachIsHitModel", "allHeld", "()I"⟩, 39) := ⟨⟨by decide +kernel, by decide +kernel⟩, List.mem_of_getElem? (i := 744) (by decide +kernel), List.mem_of_getElem? (i := 1187) (by decide +kernel), List.mem_of_getElem? (i := 1188) (by decide +kernel)⟩
def lw_privs_3 : List (MethodName × Nat) := [(⟨"EachIsHitModel", "supportOf", "(II)I"⟩, 39), (⟨"EachIsHitModel", "isBorder", "(II)Z"⟩, 39), (⟨"EachIsHitModel", "isRule", "(I)Z"⟩, 39), (⟨"EachIsHitModel", "worthOf", "(II)I"⟩, 39), (⟨"EachIsHitModel", "first", "(II)I"⟩, 39), (⟨"EachIsHitModel", "metBy", "(II)I"⟩, 39), (⟨"EachIsHitModel", "wrong", "(II)I"⟩, 39), (⟨"EachIsHitModel", "noLongs", "(I)I"⟩, 39), (⟨"EachIsHitModel", "allHeld", "()I"⟩, 39)]
theorem lw_r3 : ∀ q ∈ lw_privs_3, lw_okq q := List.forall_mem_cons.mpr ⟨lw_p32, List.forall_mem_cons.mpr ⟨lw_p33, List.forall_mem_cons.mpr ⟨lw_p34, List.forall_mem_cons.mpr ⟨lw_p35, List.forall_mem_cons.mpr ⟨lw_p36, List.forall_mem_cons.mpr ⟨lw_p37, List.forall_mem_cons.mpr ⟨lw_p38, List.forall_mem_cons.mpr ⟨lw_p39, List.forall_mem_cons.mpr ⟨lw_p40, fun _ h => absurd h List.not_mem_nil⟩⟩⟩⟩⟩⟩⟩⟩⟩
def lw_privs : List (MethodName × Nat) := lw_privs_1 ++ (lw_privs_2 ++ (lw_privs_3))
def lw_tbl : List Cond := k2_sels lw_privs ++ tables_1
theorem lw_privs_ok : ∀ q ∈ lw_privs, lw_okq q := by
  show ∀ q ∈ lw_privs_1 ++ (lw_privs_2 ++ (lw_privs_3)), lw_okq q
  exact List.forall_mem_append.mpr ⟨lw_r1, List.forall_mem_append.mpr ⟨lw_r2, lw_r3⟩⟩
/-! names, fields (printed) -/
def RX0 : String := "EachIsHit$Acts"
def TX0 : u_T := fun k => match k with
  | 0 => ("EachIsHit$Acts", "kinds", "[I", true)
  | 1 => ("EachIsHit$Acts", "wheres", "[I", true)
  | 2 => ("EachIsHit$Acts", "whats", "[I", true)
  | _ => ("EachIsHit$Acts", "known", "I", false)
def tyX0 : Nat → FieldType := fun k => match k with
  | 0 => .array .int
  | 1 => .array .int
  | 2 => .array .int
  | _ => .int
abbrev wsX00 : List Cond := u_ws RX0 TX0 4
theorem nmX0 : ∀ a, a < 4 → ∀ b, b < 4 → a ≠ b → (TX0 a).2.1 ≠ (TX0 b).2.1 := by decide +kernel
theorem tyX0_ok : ∀ k, k < 4 → parseFieldDescriptor (TX0 k).2.2.1 = some (tyX0 k) := by decide +kernel
abbrev cX0_init : ByteArray := prog_2_method_1_code
def yX0_init : MethodName := ⟨RX0, "<init>", "()V"⟩
abbrev cX0_remember : ByteArray := prog_2_method_2_code
def yX0_remember : MethodName := ⟨RX0, "remember", "(III)V"⟩
abbrev cX0_forgetOldest : ByteArray := prog_2_method_3_code
def yX0_forgetOldest : MethodName := ⟨RX0, "forgetOldest", "()V"⟩
abbrev cX0_forgetLast : ByteArray := prog_2_method_4_code
def yX0_forgetLast : MethodName := ⟨RX0, "forgetLast", "()I"⟩
abbrev cX0_forgetAll : ByteArray := prog_2_method_5_code
def yX0_forgetAll : MethodName := ⟨RX0, "forgetAll", "()V"⟩
def RX1 : String := "EachIsHit$Family"
def TX1 : u_T := fun k => match k with
  | 0 => ("EachIsHit$Family", "sets", "[I", true)
  | 1 => ("EachIsHit$Family", "tallies", "[I", true)
  | _ => ("EachIsHit$Family", "held", "I", false)
def tyX1 : Nat → FieldType := fun k => match k with
  | 0 => .array .int
  | 1 => .array .int
  | _ => .int
abbrev wsX10 : List Cond := u_ws RX1 TX1 3
theorem nmX1 : ∀ a, a < 3 → ∀ b, b < 3 → a ≠ b → (TX1 a).2.1 ≠ (TX1 b).2.1 := by decide +kernel
theorem tyX1_ok : ∀ k, k < 3 → parseFieldDescriptor (TX1 k).2.2.1 = some (tyX1 k) := by decide +kernel
abbrev cX1_init : ByteArray := prog_3_method_1_code
def yX1_init : MethodName := ⟨RX1, "<init>", "()V"⟩
abbrev cX1_placeOf : ByteArray := prog_3_method_2_code
def yX1_placeOf : MethodName := ⟨RX1, "placeOf", "(I)I"⟩
abbrev cX1_tallyOf : ByteArray := prog_3_method_3_code
def yX1_tallyOf : MethodName := ⟨RX1, "tallyOf", "(I)I"⟩
abbrev cX1_add : ByteArray := prog_3_method_4_code
def yX1_add : MethodName := ⟨RX1, "add", "(I)I"⟩
abbrev cX1_append : ByteArray := prog_3_method_5_code
def yX1_append : MethodName := ⟨RX1, "append", "(II)I"⟩
abbrev cX1_drop : ByteArray := prog_3_method_6_code
def yX1_drop : MethodName := ⟨RX1, "drop", "(I)I"⟩
abbrev cX1_removeAt : ByteArray := prog_3_method_7_code
def yX1_removeAt : MethodName := ⟨RX1, "removeAt", "(I)V"⟩
abbrev cX1_clear : ByteArray := prog_3_method_8_code
def yX1_clear : MethodName := ⟨RX1, "clear", "()V"⟩
abbrev cX1_become : ByteArray := prog_3_method_9_code
def yX1_become : MethodName := ⟨RX1, "become", "(LEachIsHit$Family;)V"⟩
abbrev cX1_countWith : ByteArray := prog_3_method_10_code
def yX1_countWith : MethodName := ⟨RX1, "countWith", "(I)I"⟩
abbrev cX1_countMet : ByteArray := prog_3_method_11_code
def yX1_countMet : MethodName := ⟨RX1, "countMet", "(I)I"⟩
abbrev cX1_hasPart : ByteArray := prog_3_method_12_code
def yX1_hasPart : MethodName := ⟨RX1, "hasPart", "(I)Z"⟩
abbrev cX1_talliesAround : ByteArray := prog_3_method_13_code
def yX1_talliesAround : MethodName := ⟨RX1, "talliesAround", "(I)I"⟩
abbrev cX1_firstOutside : ByteArray := prog_3_method_14_code
def yX1_firstOutside : MethodName := ⟨RX1, "firstOutside", "(LEachIsHit$Table;)I"⟩
abbrev cX1_packedFrom : ByteArray := prog_3_method_15_code
def yX1_packedFrom : MethodName := ⟨RX1, "packedFrom", "(I)J"⟩
def RX2 : String := "EachIsHit$Rule"
def TX2 : u_T := fun k => match k with
  | 0 => ("EachIsHit$Rule", "how", "I", false)
  | 1 => ("EachIsHit$Rule", "a", "I", false)
  | 2 => ("EachIsHit$Rule", "b", "I", false)
  | 3 => ("EachIsHit$Rule", "c", "I", false)
  | 4 => ("EachIsHit$Rule", "prices", "[I", true)
  | 5 => ("EachIsHit$Rule", "lastSet", "I", false)
  | _ => ("EachIsHit$Rule", "lastAnswer", "I", false)
def tyX2 : Nat → FieldType := fun k => match k with
  | 0 => .int
  | 1 => .int
  | 2 => .int
  | 3 => .int
  | 4 => .array .int
  | 5 => .int
  | _ => .int
abbrev wsX20 : List Cond := u_ws RX2 TX2 7
theorem nmX2 : ∀ a, a < 7 → ∀ b, b < 7 → a ≠ b → (TX2 a).2.1 ≠ (TX2 b).2.1 := by decide +kernel
theorem tyX2_ok : ∀ k, k < 7 → parseFieldDescriptor (TX2 k).2.2.1 = some (tyX2 k) := by decide +kernel
abbrev cX2_init : ByteArray := prog_4_method_1_code
def yX2_init : MethodName := ⟨RX2, "<init>", "(I)V"⟩
abbrev cX2_become : ByteArray := prog_4_method_2_code
def yX2_become : MethodName := ⟨RX2, "become", "(IIII[I)V"⟩
def RX3 : String := "EachIsHit$Sheet"
def TX3 : u_T := fun k => match k with
  | 0 => ("EachIsHit$Sheet", "row", "[J", true)
  | 1 => ("EachIsHit$Sheet", "sort", "I", false)
  | _ => ("EachIsHit$Sheet", "places", "I", false)
def tyX3 : Nat → FieldType := fun k => match k with
  | 0 => .array .long
  | 1 => .int
  | _ => .int
abbrev wsX30 : List Cond := u_ws RX3 TX3 3
theorem nmX3 : ∀ a, a < 3 → ∀ b, b < 3 → a ≠ b → (TX3 a).2.1 ≠ (TX3 b).2.1 := by decide +kernel
theorem tyX3_ok : ∀ k, k < 3 → parseFieldDescriptor (TX3 k).2.2.1 = some (tyX3 k) := by decide +kernel
abbrev cX3_init : ByteArray := prog_5_method_1_code
def yX3_init : MethodName := ⟨RX3, "<init>", "()V"⟩
abbrev cX3_become : ByteArray := prog_5_method_2_code
def yX3_become : MethodName := ⟨RX3, "become", "(II)V"⟩
abbrev cX3_put : ByteArray := prog_5_method_3_code
def yX3_put : MethodName := ⟨RX3, "put", "(IJ)Z"⟩
abbrev cX3_packedAt : ByteArray := prog_5_method_4_code
def yX3_packedAt : MethodName := ⟨RX3, "packedAt", "(I)I"⟩
def RX4 : String := "EachIsHit$Stock"
def TX4 : u_T := fun k => match k with
  | 0 => ("EachIsHit$Stock", "prices", "[I", true)
  | 1 => ("EachIsHit$Stock", "families", "[LEachIsHit$Family;", true)
  | _ => ("EachIsHit$Stock", "rules", "I", false)
def tyX4 : Nat → FieldType := fun k => match k with
  | 0 => .array .int
  | 1 => .array (.object "EachIsHit$Family")
  | _ => .int
abbrev wsX40 : List Cond := u_ws RX4 TX4 3
theorem nmX4 : ∀ a, a < 3 → ∀ b, b < 3 → a ≠ b → (TX4 a).2.1 ≠ (TX4 b).2.1 := by decide +kernel
theorem tyX4_ok : ∀ k, k < 3 → parseFieldDescriptor (TX4 k).2.2.1 = some (tyX4 k) := by decide +kernel
abbrev cX4_init : ByteArray := prog_6_method_1_code
def yX4_init : MethodName := ⟨RX4, "<init>", "()V"⟩
abbrev cX4_become : ByteArray := prog_6_method_2_code
def yX4_become : MethodName := ⟨RX4, "become", "(LEachIsHit$Stock;)V"⟩
abbrev cX4_heldInAll : ByteArray := prog_6_method_3_code
def yX4_heldInAll : MethodName := ⟨RX4, "heldInAll", "()I"⟩
def RX5 : String := "EachIsHit$Table"
def TX5 : u_T := fun k => match k with
  | 0 => ("EachIsHit$Table", "words", "[J", true)
  | _ => ("EachIsHit$Table", "supports", "[I", true)
def tyX5 : Nat → FieldType := fun k => match k with
  | 0 => .array .long
  | _ => .array .int
abbrev wsX50 : List Cond := u_ws RX5 TX5 2
theorem nmX5 : ∀ a, a < 2 → ∀ b, b < 2 → a ≠ b → (TX5 a).2.1 ≠ (TX5 b).2.1 := by decide +kernel
theorem tyX5_ok : ∀ k, k < 2 → parseFieldDescriptor (TX5 k).2.2.1 = some (tyX5 k) := by decide +kernel
abbrev cX5_init : ByteArray := prog_7_method_1_code
def yX5_init : MethodName := ⟨RX5, "<init>", "()V"⟩
abbrev cX5_put : ByteArray := prog_7_method_2_code
def yX5_put : MethodName := ⟨RX5, "put", "(I)V"⟩
abbrev cX5_has : ByteArray := prog_7_method_3_code
def yX5_has : MethodName := ⟨RX5, "has", "(I)Z"⟩
abbrev cX5_flip : ByteArray := prog_7_method_4_code
def yX5_flip : MethodName := ⟨RX5, "flip", "()V"⟩
abbrev cX5_addParts : ByteArray := prog_7_method_5_code
def yX5_addParts : MethodName := ⟨RX5, "addParts", "()V"⟩
abbrev cX5_addWholes : ByteArray := prog_7_method_6_code
def yX5_addWholes : MethodName := ⟨RX5, "addWholes", "()V"⟩
abbrev cX5_becomeSetsOf : ByteArray := prog_7_method_7_code
def yX5_becomeSetsOf : MethodName := ⟨RX5, "becomeSetsOf", "(LEachIsHit$Family;)V"⟩
abbrev cX5_becomeHitting : ByteArray := prog_7_method_8_code
def yX5_becomeHitting : MethodName := ⟨RX5, "becomeHitting", "(LEachIsHit$Family;)V"⟩
abbrev cX5_becomeTelling : ByteArray := prog_7_method_9_code
def yX5_becomeTelling : MethodName := ⟨RX5, "becomeTelling", "(LEachIsHit$Family;)V"⟩
abbrev cX5_becomeOdd : ByteArray := prog_7_method_10_code
def yX5_becomeOdd : MethodName := ⟨RX5, "becomeOdd", "(LEachIsHit$Family;)V"⟩
abbrev cX5_keepOdd : ByteArray := prog_7_method_11_code
def yX5_keepOdd : MethodName := ⟨RX5, "keepOdd", "(I)V"⟩
abbrev cX5_becomeCommon : ByteArray := prog_7_method_12_code
def yX5_becomeCommon : MethodName := ⟨RX5, "becomeCommon", "(LEachIsHit$Family;I)V"⟩
abbrev cX5_commonWord : ByteArray := prog_7_method_13_code
def yX5_commonWord : MethodName := ⟨RX5, "commonWord", "(LEachIsHit$Family;II)J"⟩
abbrev cX5_becomeLeastOf : ByteArray := prog_7_method_14_code
def yX5_becomeLeastOf : MethodName := ⟨RX5, "becomeLeastOf", "(LEachIsHit$Table;)V"⟩
abbrev cX5_becomeGreatestOf : ByteArray := prog_7_method_15_code
def yX5_becomeGreatestOf : MethodName := ⟨RX5, "becomeGreatestOf", "(LEachIsHit$Table;)V"⟩
abbrev cX5_countAll : ByteArray := prog_7_method_16_code
def yX5_countAll : MethodName := ⟨RX5, "countAll", "()I"⟩
abbrev cX5_countOf : ByteArray := prog_7_method_17_code
def yX5_countOf : MethodName := ⟨RX5, "countOf", "(I)I"⟩
abbrev cX5_pick : ByteArray := prog_7_method_18_code
def yX5_pick : MethodName := ⟨RX5, "pick", "(I)I"⟩
abbrev cX5_placeOfBit : ByteArray := prog_7_method_19_code
def yX5_placeOfBit : MethodName := ⟨RX5, "placeOfBit", "(JI)I"⟩
abbrev cX5_next : ByteArray := prog_7_method_20_code
def yX5_next : MethodName := ⟨RX5, "next", "(I)I"⟩
def RX6 : String := "EachIsHit$Walk"
def TX6 : u_T := fun k => match k with
  | 0 => ("EachIsHit$Walk", "rows", "[[I", true)
  | 1 => ("EachIsHit$Walk", "wanted", "I", false)
  | 2 => ("EachIsHit$Walk", "nodes", "I", false)
  | 3 => ("EachIsHit$Walk", "deepest", "I", false)
  | 4 => ("EachIsHit$Walk", "bare", "I", false)
  | 5 => ("EachIsHit$Walk", "isFound", "Z", false)
  | 6 => ("EachIsHit$Walk", "point", "I", false)
  | 7 => ("EachIsHit$Walk", "sets", "I", false)
  | 8 => ("EachIsHit$Walk", "depth", "I", false)
  | _ => ("EachIsHit$Walk", "had", "I", false)
def tyX6 : Nat → FieldType := fun k => match k with
  | 0 => .array (.array .int)
  | 1 => .int
  | 2 => .int
  | 3 => .int
  | 4 => .int
  | 5 => .boolean
  | 6 => .int
  | 7 => .int
  | 8 => .int
  | _ => .int
abbrev wsX60 : List Cond := u_ws RX6 TX6 10
theorem nmX6 : ∀ a, a < 10 → ∀ b, b < 10 → a ≠ b → (TX6 a).2.1 ≠ (TX6 b).2.1 := by decide +kernel
theorem tyX6_ok : ∀ k, k < 10 → parseFieldDescriptor (TX6 k).2.2.1 = some (tyX6 k) := by decide +kernel
abbrev cX6_init : ByteArray := prog_8_method_1_code
def yX6_init : MethodName := ⟨RX6, "<init>", "()V"⟩
abbrev cX6_start : ByteArray := prog_8_method_2_code
def yX6_start : MethodName := ⟨RX6, "start", "(LEachIsHit$Family;I)V"⟩
abbrev cX6_visit : ByteArray := prog_8_method_3_code
def yX6_visit : MethodName := ⟨RX6, "visit", "(III)V"⟩
abbrev cX6_keepWithout : ByteArray := prog_8_method_4_code
def yX6_keepWithout : MethodName := ⟨RX6, "keepWithout", "(III)I"⟩
abbrev cX6_keepReduced : ByteArray := prog_8_method_5_code
def yX6_keepReduced : MethodName := ⟨RX6, "keepReduced", "(III)I"⟩
abbrev cX6_hasPartIn : ByteArray := prog_8_method_6_code
def yX6_hasPartIn : MethodName := ⟨RX6, "hasPartIn", "([III)Z"⟩
def RX7 : String := "EachIsHit"
def TX7 : u_T := fun k => match k with
  | 0 => ("EachIsHit", "now", "LEachIsHit$Stock;", true)
  | 1 => ("EachIsHit", "kept", "LEachIsHit$Stock;", true)
  | 2 => ("EachIsHit", "isKept", "Z", false)
  | 3 => ("EachIsHit", "rules", "[LEachIsHit$Rule;", true)
  | 4 => ("EachIsHit", "acts", "LEachIsHit$Acts;", true)
  | 5 => ("EachIsHit", "sheets", "[LEachIsHit$Sheet;", true)
  | 6 => ("EachIsHit", "walk", "LEachIsHit$Walk;", true)
  | 7 => ("EachIsHit", "spare", "LEachIsHit$Family;", true)
  | 8 => ("EachIsHit", "hits", "LEachIsHit$Table;", true)
  | 9 => ("EachIsHit", "least", "LEachIsHit$Table;", true)
  | _ => ("EachIsHit", "worths", "[I", true)
def tyX7 : Nat → FieldType := fun k => match k with
  | 0 => .object "EachIsHit$Stock"
  | 1 => .object "EachIsHit$Stock"
  | 2 => .boolean
  | 3 => .array (.object "EachIsHit$Rule")
  | 4 => .object "EachIsHit$Acts"
  | 5 => .array (.object "EachIsHit$Sheet")
  | 6 => .object "EachIsHit$Walk"
  | 7 => .object "EachIsHit$Family"
  | 8 => .object "EachIsHit$Table"
  | 9 => .object "EachIsHit$Table"
  | _ => .array .int
abbrev wsX70 : List Cond := u_ws RX7 TX7 11
theorem nmX7 : ∀ a, a < 11 → ∀ b, b < 11 → a ≠ b → (TX7 a).2.1 ≠ (TX7 b).2.1 := by decide +kernel
theorem tyX7_ok : ∀ k, k < 11 → parseFieldDescriptor (TX7 k).2.2.1 = some (tyX7 k) := by decide +kernel
abbrev cX7_init : ByteArray := prog_1_method_1_code
def yX7_init : MethodName := ⟨RX7, "<init>", "()V"⟩
abbrev cX7_price : ByteArray := prog_1_method_2_code
def yX7_price : MethodName := ⟨RX7, "price", "(II)I"⟩
abbrev cX7_priceOf : ByteArray := prog_1_method_3_code
def yX7_priceOf : MethodName := ⟨RX7, "priceOf", "(I)I"⟩
abbrev cX7_tell : ByteArray := prog_1_method_4_code
def yX7_tell : MethodName := ⟨RX7, "tell", "(II)I"⟩
abbrev cX7_take : ByteArray := prog_1_method_5_code
def yX7_take : MethodName := ⟨RX7, "take", "(II)I"⟩
abbrev cX7_tally : ByteArray := prog_1_method_6_code
def yX7_tally : MethodName := ⟨RX7, "tally", "(II)I"⟩
abbrev cX7_at : ByteArray := prog_1_method_7_code
def yX7_at : MethodName := ⟨RX7, "at", "(II)I"⟩
abbrev cX7_size : ByteArray := prog_1_method_8_code
def yX7_size : MethodName := ⟨RX7, "size", "(I)I"⟩
abbrev cX7_wipe : ByteArray := prog_1_method_9_code
def yX7_wipe : MethodName := ⟨RX7, "wipe", "(I)I"⟩
abbrev cX7_copy : ByteArray := prog_1_method_10_code
def yX7_copy : MethodName := ⟨RX7, "copy", "(II)I"⟩
abbrev cX7_undo : ByteArray := prog_1_method_11_code
def yX7_undo : MethodName := ⟨RX7, "undo", "()I"⟩
abbrev cX7_often : ByteArray := prog_1_method_12_code
def yX7_often : MethodName := ⟨RX7, "often", "(II)I"⟩
abbrev cX7_top : ByteArray := prog_1_method_13_code
def yX7_top : MethodName := ⟨RX7, "top", "(I)I"⟩
abbrev cX7_isSimple : ByteArray := prog_1_method_14_code
def yX7_isSimple : MethodName := ⟨RX7, "isSimple", "(I)I"⟩
abbrev cX7_lean : ByteArray := prog_1_method_15_code
def yX7_lean : MethodName := ⟨RX7, "lean", "(I)I"⟩
abbrev cX7_test : ByteArray := prog_1_method_16_code
def yX7_test : MethodName := ⟨RX7, "test", "(III)I"⟩
abbrev cX7_counted : ByteArray := prog_1_method_17_code
def yX7_counted : MethodName := ⟨RX7, "counted", "(IIII)I"⟩
abbrev cX7_dual : ByteArray := prog_1_method_18_code
def yX7_dual : MethodName := ⟨RX7, "dual", "(II)I"⟩
abbrev cX7_into : ByteArray := prog_1_method_19_code
def yX7_into : MethodName := ⟨RX7, "into", "(II)I"⟩
abbrev cX7_verdict : ByteArray := prog_1_method_20_code
def yX7_verdict : MethodName := ⟨RX7, "verdict", "(III)I"⟩
abbrev cX7_tree : ByteArray := prog_1_method_21_code
def yX7_tree : MethodName := ⟨RX7, "tree", "(II)I"⟩
abbrev cX7_node : ByteArray := prog_1_method_22_code
def yX7_node : MethodName := ⟨RX7, "node", "(III)I"⟩
abbrev cX7_keys : ByteArray := prog_1_method_23_code
def yX7_keys : MethodName := ⟨RX7, "keys", "(II)I"⟩
abbrev cX7_support : ByteArray := prog_1_method_24_code
def yX7_support : MethodName := ⟨RX7, "support", "(II)I"⟩
abbrev cX7_border : ByteArray := prog_1_method_25_code
def yX7_border : MethodName := ⟨RX7, "border", "(IIII)I"⟩
abbrev cX7_make : ByteArray := prog_1_method_26_code
def yX7_make : MethodName := ⟨RX7, "make", "(IIII)I"⟩
abbrev cX7_rule : ByteArray := prog_1_method_27_code
def yX7_rule : MethodName := ⟨RX7, "rule", "(IIII)I"⟩
abbrev cX7_worth : ByteArray := prog_1_method_28_code
def yX7_worth : MethodName := ⟨RX7, "worth", "(II)I"⟩
abbrev cX7_best : ByteArray := prog_1_method_29_code
def yX7_best : MethodName := ⟨RX7, "best", "(III)I"⟩
abbrev cX7_ranked : ByteArray := prog_1_method_30_code
def yX7_ranked : MethodName := ⟨RX7, "ranked", "(III)I"⟩
abbrev cX7_sums : ByteArray := prog_1_method_31_code
def yX7_sums : MethodName := ⟨RX7, "sums", "(II)I"⟩
abbrev cX7_sheet : ByteArray := prog_1_method_32_code
def yX7_sheet : MethodName := ⟨RX7, "sheet", "(III)I"⟩
abbrev cX7_cell : ByteArray := prog_1_method_33_code
def yX7_cell : MethodName := ⟨RX7, "cell", "(IIJ)I"⟩
abbrev cX7_read : ByteArray := prog_1_method_34_code
def yX7_read : MethodName := ⟨RX7, "read", "(II)J"⟩
abbrev cX7_packs : ByteArray := prog_1_method_35_code
def yX7_packs : MethodName := ⟨RX7, "packs", "(II)I"⟩
abbrev cX7_unpacks : ByteArray := prog_1_method_36_code
def yX7_unpacks : MethodName := ⟨RX7, "unpacks", "(III)I"⟩
abbrev cX7_freqs : ByteArray := prog_1_method_37_code
def yX7_freqs : MethodName := ⟨RX7, "freqs", "(II)I"⟩
abbrev cX7_image : ByteArray := prog_1_method_38_code
def yX7_image : MethodName := ⟨RX7, "image", "()I"⟩
abbrev cX7_back : ByteArray := prog_1_method_39_code
def yX7_back : MethodName := ⟨RX7, "back", "()I"⟩
abbrev cX7_count : ByteArray := prog_1_method_40_code
def yX7_count : MethodName := ⟨RX7, "count", "(I)I"⟩
abbrev cX7_isNoPoint : ByteArray := prog_1_method_41_code
def yX7_isNoPoint : MethodName := ⟨RX7, "isNoPoint", "(I)Z"⟩
abbrev cX7_isNoSet : ByteArray := prog_1_method_42_code
def yX7_isNoSet : MethodName := ⟨RX7, "isNoSet", "(I)Z"⟩
abbrev cX7_isNoFamily : ByteArray := prog_1_method_43_code
def yX7_isNoFamily : MethodName := ⟨RX7, "isNoFamily", "(I)Z"⟩
abbrev cX7_isNoSheet : ByteArray := prog_1_method_44_code
def yX7_isNoSheet : MethodName := ⟨RX7, "isNoSheet", "(I)Z"⟩
abbrev cX7_isNoTest : ByteArray := prog_1_method_45_code
def yX7_isNoTest : MethodName := ⟨RX7, "isNoTest", "(I)Z"⟩
abbrev cX7_isNoRule : ByteArray := prog_1_method_46_code
def yX7_isNoRule : MethodName := ⟨RX7, "isNoRule", "(I)Z"⟩
abbrev cX7_hasPoint : ByteArray := prog_1_method_47_code
def yX7_hasPoint : MethodName := ⟨RX7, "hasPoint", "(II)Z"⟩
abbrev cX7_isPart : ByteArray := prog_1_method_48_code
def yX7_isPart : MethodName := ⟨RX7, "isPart", "(II)Z"⟩
abbrev cX7_topPoint : ByteArray := prog_1_method_49_code
def yX7_topPoint : MethodName := ⟨RX7, "topPoint", "([II)I"⟩
abbrev cX7_findDual : ByteArray := prog_1_method_50_code
def yX7_findDual : MethodName := ⟨RX7, "findDual", "(LEachIsHit$Family;)V"⟩
abbrev cX7_tableOf : ByteArray := prog_1_method_51_code
def yX7_tableOf : MethodName := ⟨RX7, "tableOf", "(ILEachIsHit$Family;)LEachIsHit$Table;"⟩
abbrev cX7_listed : ByteArray := prog_1_method_52_code
def yX7_listed : MethodName := ⟨RX7, "listed", "(LEachIsHit$Table;I)I"⟩
abbrev cX7_firstNotHeld : ByteArray := prog_1_method_53_code
def yX7_firstNotHeld : MethodName := ⟨RX7, "firstNotHeld", "(LEachIsHit$Table;LEachIsHit$Family;)I"⟩
abbrev cX7_canMake : ByteArray := prog_1_method_54_code
def yX7_canMake : MethodName := ⟨RX7, "canMake", "(III)Z"⟩
abbrev cX7_fillSpare : ByteArray := prog_1_method_55_code
def yX7_fillSpare : MethodName := ⟨RX7, "fillSpare", "(III)Z"⟩
abbrev cX7_madeSet : ByteArray := prog_1_method_56_code
def yX7_madeSet : MethodName := ⟨RX7, "madeSet", "(IIII)I"⟩
abbrev cX7_ringSet : ByteArray := prog_1_method_57_code
def yX7_ringSet : MethodName := ⟨RX7, "ringSet", "(III)I"⟩
abbrev cX7_classSet : ByteArray := prog_1_method_58_code
def yX7_classSet : MethodName := ⟨RX7, "classSet", "(II)I"⟩
abbrev cX7_asksFirst : ByteArray := prog_1_method_59_code
def yX7_asksFirst : MethodName := ⟨RX7, "asksFirst", "(I)Z"⟩
abbrev cX7_asksSecond : ByteArray := prog_1_method_60_code
def yX7_asksSecond : MethodName := ⟨RX7, "asksSecond", "(I)Z"⟩
abbrev cX7_fitsHow : ByteArray := prog_1_method_61_code
def yX7_fitsHow : MethodName := ⟨RX7, "fitsHow", "(II)Z"⟩
abbrev cX7_tellsNow : ByteArray := prog_1_method_62_code
def yX7_tellsNow : MethodName := ⟨RX7, "tellsNow", "(II)I"⟩
abbrev cX7_tells : ByteArray := prog_1_method_63_code
def yX7_tells : MethodName := ⟨RX7, "tells", "(III)I"⟩
abbrev cX7_tellsByParts : ByteArray := prog_1_method_64_code
def yX7_tellsByParts : MethodName := ⟨RX7, "tellsByParts", "(LEachIsHit$Rule;II)I"⟩
abbrev cX7_tellsAlone : ByteArray := prog_1_method_65_code
def yX7_tellsAlone : MethodName := ⟨RX7, "tellsAlone", "(LEachIsHit$Rule;I)I"⟩
abbrev cX7_shifted : ByteArray := prog_1_method_66_code
def yX7_shifted : MethodName := ⟨RX7, "shifted", "(II)I"⟩
abbrev cX7_priceOfAll : ByteArray := prog_1_method_67_code
def yX7_priceOfAll : MethodName := ⟨RX7, "priceOfAll", "(I[I)I"⟩
abbrev cX7_dearest : ByteArray := prog_1_method_68_code
def yX7_dearest : MethodName := ⟨RX7, "dearest", "(I[I)I"⟩
abbrev cX7_rankOf : ByteArray := prog_1_method_69_code
def yX7_rankOf : MethodName := ⟨RX7, "rankOf", "(II)I"⟩
def RX8 : String := "EachIsHitModel"
def TX8 : u_T := fun k => match k with
  | 0 => ("EachIsHitModel", "price", "[I", true)
  | 1 => ("EachIsHitModel", "sizes", "[I", true)
  | 2 => ("EachIsHitModel", "sets", "[I", true)
  | 3 => ("EachIsHitModel", "tallies", "[I", true)
  | 4 => ("EachIsHitModel", "rules", "I", false)
  | 5 => ("EachIsHitModel", "ruleHow", "[I", true)
  | 6 => ("EachIsHitModel", "ruleA", "[I", true)
  | 7 => ("EachIsHitModel", "ruleB", "[I", true)
  | 8 => ("EachIsHitModel", "ruleC", "[I", true)
  | 9 => ("EachIsHitModel", "rulePrice", "[I", true)
  | 10 => ("EachIsHitModel", "acts", "I", false)
  | 11 => ("EachIsHitModel", "actSort", "[I", true)
  | 12 => ("EachIsHitModel", "actOf", "[I", true)
  | 13 => ("EachIsHitModel", "actV", "[I", true)
  | 14 => ("EachIsHitModel", "goes", "[Z", true)
  | 15 => ("EachIsHitModel", "wanted", "[I", true)
  | 16 => ("EachIsHitModel", "wantedMany", "I", false)
  | 17 => ("EachIsHitModel", "least", "[I", true)
  | 18 => ("EachIsHitModel", "leastMany", "I", false)
  | 19 => ("EachIsHitModel", "row", "[I", true)
  | 20 => ("EachIsHitModel", "nodes", "I", false)
  | 21 => ("EachIsHitModel", "deepest", "I", false)
  | 22 => ("EachIsHitModel", "barren", "I", false)
  | 23 => ("EachIsHitModel", "soughtNode", "I", false)
  | 24 => ("EachIsHitModel", "soughtPoint", "I", false)
  | 25 => ("EachIsHitModel", "soughtMany", "I", false)
  | 26 => ("EachIsHitModel", "soughtDepth", "I", false)
  | 27 => ("EachIsHitModel", "soughtHad", "I", false)
  | 28 => ("EachIsHitModel", "isCommon", "[Z", true)
  | 29 => ("EachIsHitModel", "worths", "[I", true)
  | 30 => ("EachIsHitModel", "sorts", "[I", true)
  | 31 => ("EachIsHitModel", "long0", "[I", true)
  | 32 => ("EachIsHitModel", "cells", "[J", true)
  | 33 => ("EachIsHitModel", "isKept", "Z", false)
  | 34 => ("EachIsHitModel", "keptPrice", "[I", true)
  | 35 => ("EachIsHitModel", "keptSizes", "[I", true)
  | 36 => ("EachIsHitModel", "keptSets", "[I", true)
  | 37 => ("EachIsHitModel", "keptTallies", "[I", true)
  | _ => ("EachIsHitModel", "keptRules", "I", false)
def tyX8 : Nat → FieldType := fun k => match k with
  | 0 => .array .int
  | 1 => .array .int
  | 2 => .array .int
  | 3 => .array .int
  | 4 => .int
  | 5 => .array .int
  | 6 => .array .int
  | 7 => .array .int
  | 8 => .array .int
  | 9 => .array .int
  | 10 => .int
  | 11 => .array .int
  | 12 => .array .int
  | 13 => .array .int
  | 14 => .array .boolean
  | 15 => .array .int
  | 16 => .int
  | 17 => .array .int
  | 18 => .int
  | 19 => .array .int
  | 20 => .int
  | 21 => .int
  | 22 => .int
  | 23 => .int
  | 24 => .int
  | 25 => .int
  | 26 => .int
  | 27 => .int
  | 28 => .array .boolean
  | 29 => .array .int
  | 30 => .array .int
  | 31 => .array .int
  | 32 => .array .long
  | 33 => .boolean
  | 34 => .array .int
  | 35 => .array .int
  | 36 => .array .int
  | 37 => .array .int
  | _ => .int
abbrev wsX80 : List Cond := u_ws RX8 TX8 39
theorem nmX8 : ∀ a, a < 39 → ∀ b, b < 39 → a ≠ b → (TX8 a).2.1 ≠ (TX8 b).2.1 := by decide +kernel
theorem tyX8_ok : ∀ k, k < 39 → parseFieldDescriptor (TX8 k).2.2.1 = some (tyX8 k) := by decide +kernel
abbrev cX8_init : ByteArray := prog_10_method_1_code
def yX8_init : MethodName := ⟨RX8, "<init>", "()V"⟩
abbrev cX8_in : ByteArray := prog_10_method_2_code
def yX8_in : MethodName := ⟨RX8, "in", "(JJJ)Z"⟩
abbrev cX8_isPoint : ByteArray := prog_10_method_3_code
def yX8_isPoint : MethodName := ⟨RX8, "isPoint", "(I)Z"⟩
abbrev cX8_isSet : ByteArray := prog_10_method_4_code
def yX8_isSet : MethodName := ⟨RX8, "isSet", "(I)Z"⟩
abbrev cX8_isFamily : ByteArray := prog_10_method_5_code
def yX8_isFamily : MethodName := ⟨RX8, "isFamily", "(I)Z"⟩
abbrev cX8_isRule : ByteArray := prog_10_method_6_code
def yX8_isRule : MethodName := ⟨RX8, "isRule", "(I)Z"⟩
abbrev cX8_has : ByteArray := prog_10_method_7_code
def yX8_has : MethodName := ⟨RX8, "has", "(II)Z"⟩
abbrev cX8_many : ByteArray := prog_10_method_8_code
def yX8_many : MethodName := ⟨RX8, "many", "(I)I"⟩
abbrev cX8_isPart : ByteArray := prog_10_method_9_code
def yX8_isPart : MethodName := ⟨RX8, "isPart", "(II)Z"⟩
abbrev cX8_setOf : ByteArray := prog_10_method_10_code
def yX8_setOf : MethodName := ⟨RX8, "setOf", "(II)I"⟩
abbrev cX8_remembers : ByteArray := prog_10_method_11_code
def yX8_remembers : MethodName := ⟨RX8, "remembers", "(III)V"⟩
abbrev cX8_price : ByteArray := prog_10_method_12_code
def yX8_price : MethodName := ⟨RX8, "price", "(II)I"⟩
abbrev cX8_priceOf : ByteArray := prog_10_method_13_code
def yX8_priceOf : MethodName := ⟨RX8, "priceOf", "(I)I"⟩
abbrev cX8_placeOf : ByteArray := prog_10_method_14_code
def yX8_placeOf : MethodName := ⟨RX8, "placeOf", "(II)I"⟩
abbrev cX8_tells : ByteArray := prog_10_method_15_code
def yX8_tells : MethodName := ⟨RX8, "tells", "(II)I"⟩
abbrev cX8_drops : ByteArray := prog_10_method_16_code
def yX8_drops : MethodName := ⟨RX8, "drops", "(II)V"⟩
abbrev cX8_takes : ByteArray := prog_10_method_17_code
def yX8_takes : MethodName := ⟨RX8, "takes", "(II)I"⟩
abbrev cX8_tallyOf : ByteArray := prog_10_method_18_code
def yX8_tallyOf : MethodName := ⟨RX8, "tallyOf", "(II)I"⟩
abbrev cX8_tell : ByteArray := prog_10_method_19_code
def yX8_tell : MethodName := ⟨RX8, "tell", "(II)I"⟩
abbrev cX8_take : ByteArray := prog_10_method_20_code
def yX8_take : MethodName := ⟨RX8, "take", "(II)I"⟩
abbrev cX8_tally : ByteArray := prog_10_method_21_code
def yX8_tally : MethodName := ⟨RX8, "tally", "(II)I"⟩
abbrev cX8_at : ByteArray := prog_10_method_22_code
def yX8_at : MethodName := ⟨RX8, "at", "(II)I"⟩
abbrev cX8_size : ByteArray := prog_10_method_23_code
def yX8_size : MethodName := ⟨RX8, "size", "(I)I"⟩
abbrev cX8_wipe : ByteArray := prog_10_method_24_code
def yX8_wipe : MethodName := ⟨RX8, "wipe", "(I)I"⟩
abbrev cX8_copy : ByteArray := prog_10_method_25_code
def yX8_copy : MethodName := ⟨RX8, "copy", "(II)I"⟩
abbrev cX8_undo : ByteArray := prog_10_method_26_code
def yX8_undo : MethodName := ⟨RX8, "undo", "()I"⟩
abbrev cX8_oftenIn : ByteArray := prog_10_method_27_code
def yX8_oftenIn : MethodName := ⟨RX8, "oftenIn", "(II)I"⟩
abbrev cX8_often : ByteArray := prog_10_method_28_code
def yX8_often : MethodName := ⟨RX8, "often", "(II)I"⟩
abbrev cX8_top : ByteArray := prog_10_method_29_code
def yX8_top : MethodName := ⟨RX8, "top", "(I)I"⟩
abbrev cX8_hasPart : ByteArray := prog_10_method_30_code
def yX8_hasPart : MethodName := ⟨RX8, "hasPart", "(II)Z"⟩
abbrev cX8_isSimple : ByteArray := prog_10_method_31_code
def yX8_isSimple : MethodName := ⟨RX8, "isSimple", "(I)I"⟩
abbrev cX8_lean : ByteArray := prog_10_method_32_code
def yX8_lean : MethodName := ⟨RX8, "lean", "(I)I"⟩
abbrev cX8_wants : ByteArray := prog_10_method_33_code
def yX8_wants : MethodName := ⟨RX8, "wants", "(I)V"⟩
abbrev cX8_hits : ByteArray := prog_10_method_34_code
def yX8_hits : MethodName := ⟨RX8, "hits", "(I)I"⟩
abbrev cX8_does : ByteArray := prog_10_method_35_code
def yX8_does : MethodName := ⟨RX8, "does", "(III)Z"⟩
abbrev cX8_isTest : ByteArray := prog_10_method_36_code
def yX8_isTest : MethodName := ⟨RX8, "isTest", "(I)Z"⟩
abbrev cX8_test : ByteArray := prog_10_method_37_code
def yX8_test : MethodName := ⟨RX8, "test", "(III)I"⟩
abbrev cX8_counted : ByteArray := prog_10_method_38_code
def yX8_counted : MethodName := ⟨RX8, "counted", "(IIII)I"⟩
abbrev cX8_findsLeast : ByteArray := prog_10_method_39_code
def yX8_findsLeast : MethodName := ⟨RX8, "findsLeast", "()V"⟩
abbrev cX8_findsDual : ByteArray := prog_10_method_40_code
def yX8_findsDual : MethodName := ⟨RX8, "findsDual", "(I)V"⟩
abbrev cX8_leastAt : ByteArray := prog_10_method_41_code
def yX8_leastAt : MethodName := ⟨RX8, "leastAt", "(I)I"⟩
abbrev cX8_dual : ByteArray := prog_10_method_42_code
def yX8_dual : MethodName := ⟨RX8, "dual", "(II)I"⟩
abbrev cX8_into : ByteArray := prog_10_method_43_code
def yX8_into : MethodName := ⟨RX8, "into", "(II)I"⟩
abbrev cX8_verdict : ByteArray := prog_10_method_44_code
def yX8_verdict : MethodName := ⟨RX8, "verdict", "(III)I"⟩
abbrev cX8_thins : ByteArray := prog_10_method_45_code
def yX8_thins : MethodName := ⟨RX8, "thins", "(II)I"⟩
abbrev cX8_topOf : ByteArray := prog_10_method_46_code
def yX8_topOf : MethodName := ⟨RX8, "topOf", "(II)I"⟩
abbrev cX8_grows : ByteArray := prog_10_method_47_code
def yX8_grows : MethodName := ⟨RX8, "grows", "(III)V"⟩
abbrev cX8_findsTree : ByteArray := prog_10_method_48_code
def yX8_findsTree : MethodName := ⟨RX8, "findsTree", "(II)V"⟩
abbrev cX8_tree : ByteArray := prog_10_method_49_code
def yX8_tree : MethodName := ⟨RX8, "tree", "(II)I"⟩
abbrev cX8_node : ByteArray := prog_10_method_50_code
def yX8_node : MethodName := ⟨RX8, "node", "(III)I"⟩
abbrev cX8_keys : ByteArray := prog_10_method_51_code
def yX8_keys : MethodName := ⟨RX8, "keys", "(II)I"⟩
abbrev cX8_supportOf : ByteArray := prog_10_method_52_code
def yX8_supportOf : MethodName := ⟨RX8, "supportOf", "(II)I"⟩
abbrev cX8_support : ByteArray := prog_10_method_53_code
def yX8_support : MethodName := ⟨RX8, "support", "(II)I"⟩
abbrev cX8_isBorder : ByteArray := prog_10_method_54_code
def yX8_isBorder : MethodName := ⟨RX8, "isBorder", "(II)Z"⟩
abbrev cX8_border : ByteArray := prog_10_method_55_code
def yX8_border : MethodName := ⟨RX8, "border", "(IIII)I"⟩
abbrev cX8_run : ByteArray := prog_10_method_56_code
def yX8_run : MethodName := ⟨RX8, "run", "(III)I"⟩
abbrev cX8_rest : ByteArray := prog_10_method_57_code
def yX8_rest : MethodName := ⟨RX8, "rest", "(II)I"⟩
abbrev cX8_canMake : ByteArray := prog_10_method_58_code
def yX8_canMake : MethodName := ⟨RX8, "canMake", "(III)Z"⟩
abbrev cX8_make : ByteArray := prog_10_method_59_code
def yX8_make : MethodName := ⟨RX8, "make", "(IIII)I"⟩
abbrev cX8_isOfA : ByteArray := prog_10_method_60_code
def yX8_isOfA : MethodName := ⟨RX8, "isOfA", "(I)Z"⟩
abbrev cX8_isC : ByteArray := prog_10_method_61_code
def yX8_isC : MethodName := ⟨RX8, "isC", "(II)Z"⟩
abbrev cX8_rule : ByteArray := prog_10_method_62_code
def yX8_rule : MethodName := ⟨RX8, "rule", "(IIII)I"⟩
abbrev cX8_first : ByteArray := prog_10_method_63_code
def yX8_first : MethodName := ⟨RX8, "first", "(II)I"⟩
abbrev cX8_metBy : ByteArray := prog_10_method_64_code
def yX8_metBy : MethodName := ⟨RX8, "metBy", "(II)I"⟩
abbrev cX8_worthOf : ByteArray := prog_10_method_65_code
def yX8_worthOf : MethodName := ⟨RX8, "worthOf", "(II)I"⟩
abbrev cX8_worth : ByteArray := prog_10_method_66_code
def yX8_worth : MethodName := ⟨RX8, "worth", "(II)I"⟩
abbrev cX8_best : ByteArray := prog_10_method_67_code
def yX8_best : MethodName := ⟨RX8, "best", "(III)I"⟩
abbrev cX8_ranked : ByteArray := prog_10_method_68_code
def yX8_ranked : MethodName := ⟨RX8, "ranked", "(III)I"⟩
abbrev cX8_sums : ByteArray := prog_10_method_69_code
def yX8_sums : MethodName := ⟨RX8, "sums", "(II)I"⟩
abbrev cX8_isSheet : ByteArray := prog_10_method_70_code
def yX8_isSheet : MethodName := ⟨RX8, "isSheet", "(I)Z"⟩
abbrev cX8_sheet : ByteArray := prog_10_method_71_code
def yX8_sheet : MethodName := ⟨RX8, "sheet", "(III)I"⟩
abbrev cX8_wrong : ByteArray := prog_10_method_72_code
def yX8_wrong : MethodName := ⟨RX8, "wrong", "(II)I"⟩
abbrev cX8_cell : ByteArray := prog_10_method_73_code
def yX8_cell : MethodName := ⟨RX8, "cell", "(IIJ)I"⟩
abbrev cX8_read : ByteArray := prog_10_method_74_code
def yX8_read : MethodName := ⟨RX8, "read", "(II)J"⟩
abbrev cX8_noLongs : ByteArray := prog_10_method_75_code
def yX8_noLongs : MethodName := ⟨RX8, "noLongs", "(I)I"⟩
abbrev cX8_packs : ByteArray := prog_10_method_76_code
def yX8_packs : MethodName := ⟨RX8, "packs", "(II)I"⟩
abbrev cX8_unpacks : ByteArray := prog_10_method_77_code
def yX8_unpacks : MethodName := ⟨RX8, "unpacks", "(III)I"⟩
abbrev cX8_freqs : ByteArray := prog_10_method_78_code
def yX8_freqs : MethodName := ⟨RX8, "freqs", "(II)I"⟩
abbrev cX8_allHeld : ByteArray := prog_10_method_79_code
def yX8_allHeld : MethodName := ⟨RX8, "allHeld", "()I"⟩
abbrev cX8_copies : ByteArray := prog_10_method_80_code
def yX8_copies : MethodName := ⟨RX8, "copies", "([I[I)V"⟩
abbrev cX8_image : ByteArray := prog_10_method_81_code
def yX8_image : MethodName := ⟨RX8, "image", "()I"⟩
abbrev cX8_back : ByteArray := prog_10_method_82_code
def yX8_back : MethodName := ⟨RX8, "back", "()I"⟩
abbrev cX8_count : ByteArray := prog_10_method_83_code
def yX8_count : MethodName := ⟨RX8, "count", "(I)I"⟩
def RJ6 : String := "java/lang/Integer"
def TJ6 : u_T := fun k => match k with
  | _ => ("", "", "", false)
def tyJ6 : Nat → FieldType := fun k => match k with
  | _ => .int
abbrev wsJ60 : List Cond := u_ws RJ6 TJ6 0
theorem nmJ6 : ∀ a, a < 0 → ∀ b, b < 0 → a ≠ b → (TJ6 a).2.1 ≠ (TJ6 b).2.1 := by decide +kernel
theorem tyJ6_ok : ∀ k, k < 0 → parseFieldDescriptor (TJ6 k).2.2.1 = some (tyJ6 k) := by decide +kernel
abbrev cJ6_bitCount_0f7a4 : ByteArray := prog_11_method_49_code
def yJ6_bitCount_0f7a4 : MethodName := ⟨RJ6, "bitCount", "(I)I"⟩
def RJ13 : String := "java/lang/Long"
def TJ13 : u_T := fun k => match k with
  | _ => ("", "", "", false)
def tyJ13 : Nat → FieldType := fun k => match k with
  | _ => .int
abbrev wsJ130 : List Cond := u_ws RJ13 TJ13 0
theorem nmJ13 : ∀ a, a < 0 → ∀ b, b < 0 → a ≠ b → (TJ13 a).2.1 ≠ (TJ13 b).2.1 := by decide +kernel
theorem tyJ13_ok : ∀ k, k < 0 → parseFieldDescriptor (TJ13 k).2.2.1 = some (tyJ13 k) := by decide +kernel
abbrev cJ13_bitCount_95d88 : ByteArray := prog_12_method_50_code
def yJ13_bitCount_95d88 : MethodName := ⟨RJ13, "bitCount", "(J)I"⟩
def RJ9 : String := "java/lang/Math"
def TJ9 : u_T := fun k => match k with
  | _ => ("", "", "", false)
def tyJ9 : Nat → FieldType := fun k => match k with
  | _ => .int
abbrev wsJ90 : List Cond := u_ws RJ9 TJ9 0
theorem nmJ9 : ∀ a, a < 0 → ∀ b, b < 0 → a ≠ b → (TJ9 a).2.1 ≠ (TJ9 b).2.1 := by decide +kernel
theorem tyJ9_ok : ∀ k, k < 0 → parseFieldDescriptor (TJ9 k).2.2.1 = some (tyJ9 k) := by decide +kernel
abbrev cJ9_max_7cf53 : ByteArray := prog_13_method_65_code
def yJ9_max_7cf53 : MethodName := ⟨RJ9, "max", "(II)I"⟩
abbrev cJ9_min_7cf53 : ByteArray := prog_13_method_69_code
def yJ9_min_7cf53 : MethodName := ⟨RJ9, "min", "(II)I"⟩
def RJ10 : String := "java/lang/System"
def TJ10 : u_T := fun k => match k with
  | _ => ("", "", "", false)
def tyJ10 : Nat → FieldType := fun k => match k with
  | _ => .int
abbrev wsJ100 : List Cond := u_ws RJ10 TJ10 0
theorem nmJ10 : ∀ a, a < 0 → ∀ b, b < 0 → a ≠ b → (TJ10 a).2.1 ≠ (TJ10 b).2.1 := by decide +kernel
theorem tyJ10_ok : ∀ k, k < 0 → parseFieldDescriptor (TJ10 k).2.2.1 = some (tyJ10 k) := by decide +kernel
def RJ7 : String := "java/util/Arrays"
def TJ7 : u_T := fun k => match k with
  | _ => ("", "", "", false)
def tyJ7 : Nat → FieldType := fun k => match k with
  | _ => .int
abbrev wsJ70 : List Cond := u_ws RJ7 TJ7 0
theorem nmJ7 : ∀ a, a < 0 → ∀ b, b < 0 → a ≠ b → (TJ7 a).2.1 ≠ (TJ7 b).2.1 := by decide +kernel
theorem tyJ7_ok : ∀ k, k < 0 → parseFieldDescriptor (TJ7 k).2.2.1 = some (tyJ7 k) := by decide +kernel
abbrev cJ7_fill_d0a16 : ByteArray := prog_15_method_101_code
def yJ7_fill_d0a16 : MethodName := ⟨RJ7, "fill", "([JJ)V"⟩
abbrev cJ7_fill_53178 : ByteArray := prog_15_method_103_code
def yJ7_fill_53178 : MethodName := ⟨RJ7, "fill", "([II)V"⟩
def RL : String := "EachIsHitLaw"
abbrev cL_law : ByteArray := code
def yL_law : MethodName := ⟨RL, "law", "([I)Z"⟩
