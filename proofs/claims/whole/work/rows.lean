section
-- ===== PART A: goes FIRST, ahead of the names: the tables' words, and 'selects' of the private methods out of them =====
/-- a private method of a class that the tables say can be made, by its rows of tables_1 -/
def lw_okq (q : MethodName × Nat) : Prop := (q.1.cls ≠ "java/lang/invoke/MethodHandle" ∧ q.1.cls ≠ "java/lang/invoke/VarHandle") ∧ Cond.instantiable q.1.cls q.2 ∈ tables_1 ∧ Cond.privateMethod q.1 ∈ tables_1 ∧ Cond.instanceMethod q.1 ∈ tables_1
theorem lw_p0 : lw_okq (⟨"EachIsHit", "tableOf", "(ILEachIsHit$Family;)LEachIsHit$Table;"⟩, 11) := ⟨⟨by decide +kernel, by decide +kernel⟩, List.mem_of_getElem? (i := 16) (by decide +kernel), List.mem_of_getElem? (i := 397) (by decide +kernel), List.mem_of_getElem? (i := 398) (by decide +kernel)⟩
theorem lw_p1 : lw_okq (⟨"EachIsHit", "findDual", "(LEachIsHit$Family;)V"⟩, 11) := ⟨⟨by decide +kernel, by decide +kernel⟩, List.mem_of_getElem? (i := 16) (by decide +kernel), List.mem_of_getElem? (i := 423) (by decide +kernel), List.mem_of_getElem? (i := 424) (by decide +kernel)⟩
theorem lw_p2 : lw_okq (⟨"EachIsHit$Walk", "visit", "(III)V"⟩, 10) := ⟨⟨by decide +kernel, by decide +kernel⟩, List.mem_of_getElem? (i := 152) (by decide +kernel), List.mem_of_getElem? (i := 527) (by decide +kernel), List.mem_of_getElem? (i := 528) (by decide +kernel)⟩
theorem lw_p3 : lw_okq (⟨"EachIsHit$Walk", "keepWithout", "(III)I"⟩, 10) := ⟨⟨by decide +kernel, by decide +kernel⟩, List.mem_of_getElem? (i := 152) (by decide +kernel), List.mem_of_getElem? (i := 533) (by decide +kernel), List.mem_of_getElem? (i := 534) (by decide +kernel)⟩
theorem lw_p4 : lw_okq (⟨"EachIsHit$Walk", "keepReduced", "(III)I"⟩, 10) := ⟨⟨by decide +kernel, by decide +kernel⟩, List.mem_of_getElem? (i := 152) (by decide +kernel), List.mem_of_getElem? (i := 538) (by decide +kernel), List.mem_of_getElem? (i := 539) (by decide +kernel)⟩
theorem lw_p5 : lw_okq (⟨"EachIsHit$Table", "commonWord", "(LEachIsHit$Family;II)J"⟩, 2) := ⟨⟨by decide +kernel, by decide +kernel⟩, List.mem_of_getElem? (i := 201) (by decide +kernel), List.mem_of_getElem? (i := 574) (by decide +kernel), List.mem_of_getElem? (i := 575) (by decide +kernel)⟩
theorem lw_p6 : lw_okq (⟨"EachIsHit", "fillSpare", "(III)Z"⟩, 11) := ⟨⟨by decide +kernel, by decide +kernel⟩, List.mem_of_getElem? (i := 16) (by decide +kernel), List.mem_of_getElem? (i := 591) (by decide +kernel), List.mem_of_getElem? (i := 592) (by decide +kernel)⟩
theorem lw_p7 : lw_okq (⟨"EachIsHit", "isNoRule", "(I)Z"⟩, 11) := ⟨⟨by decide +kernel, by decide +kernel⟩, List.mem_of_getElem? (i := 16) (by decide +kernel), List.mem_of_getElem? (i := 615) (by decide +kernel), List.mem_of_getElem? (i := 616) (by decide +kernel)⟩
theorem lw_p8 : lw_okq (⟨"EachIsHit", "tellsNow", "(II)I"⟩, 11) := ⟨⟨by decide +kernel, by decide +kernel⟩, List.mem_of_getElem? (i := 16) (by decide +kernel), List.mem_of_getElem? (i := 631) (by decide +kernel), List.mem_of_getElem? (i := 632) (by decide +kernel)⟩
theorem lw_p9 : lw_okq (⟨"EachIsHit", "tells", "(III)I"⟩, 11) := ⟨⟨by decide +kernel, by decide +kernel⟩, List.mem_of_getElem? (i := 16) (by decide +kernel), List.mem_of_getElem? (i := 635) (by decide +kernel), List.mem_of_getElem? (i := 636) (by decide +kernel)⟩
theorem lw_p10 : lw_okq (⟨"EachIsHit", "tellsByParts", "(LEachIsHit$Rule;II)I"⟩, 11) := ⟨⟨by decide +kernel, by decide +kernel⟩, List.mem_of_getElem? (i := 16) (by decide +kernel), List.mem_of_getElem? (i := 639) (by decide +kernel), List.mem_of_getElem? (i := 640) (by decide +kernel)⟩
theorem lw_p11 : lw_okq (⟨"EachIsHit", "tellsAlone", "(LEachIsHit$Rule;I)I"⟩, 11) := ⟨⟨by decide +kernel, by decide +kernel⟩, List.mem_of_getElem? (i := 16) (by decide +kernel), List.mem_of_getElem? (i := 648) (by decide +kernel), List.mem_of_getElem? (i := 649) (by decide +kernel)⟩
theorem lw_p12 : lw_okq (⟨"EachIsHit", "rankOf", "(II)I"⟩, 11) := ⟨⟨by decide +kernel, by decide +kernel⟩, List.mem_of_getElem? (i := 16) (by decide +kernel), List.mem_of_getElem? (i := 667) (by decide +kernel), List.mem_of_getElem? (i := 668) (by decide +kernel)⟩
theorem lw_p13 : lw_okq (⟨"EachIsHitModel", "remembers", "(III)V"⟩, 39) := ⟨⟨by decide +kernel, by decide +kernel⟩, List.mem_of_getElem? (i := 744) (by decide +kernel), List.mem_of_getElem? (i := 881) (by decide +kernel), List.mem_of_getElem? (i := 882) (by decide +kernel)⟩
theorem lw_p14 : lw_okq (⟨"EachIsHitModel", "tallyOf", "(II)I"⟩, 39) := ⟨⟨by decide +kernel, by decide +kernel⟩, List.mem_of_getElem? (i := 744) (by decide +kernel), List.mem_of_getElem? (i := 901) (by decide +kernel), List.mem_of_getElem? (i := 902) (by decide +kernel)⟩
theorem lw_p15 : lw_okq (⟨"EachIsHitModel", "placeOf", "(II)I"⟩, 39) := ⟨⟨by decide +kernel, by decide +kernel⟩, List.mem_of_getElem? (i := 744) (by decide +kernel), List.mem_of_getElem? (i := 905) (by decide +kernel), List.mem_of_getElem? (i := 906) (by decide +kernel)⟩
def lw_privs_1 : List (MethodName × Nat) := [(⟨"EachIsHit", "tableOf", "(ILEachIsHit$Family;)LEachIsHit$Table;"⟩, 11), (⟨"EachIsHit", "findDual", "(LEachIsHit$Family;)V"⟩, 11), (⟨"EachIsHit$Walk", "visit", "(III)V"⟩, 10), (⟨"EachIsHit$Walk", "keepWithout", "(III)I"⟩, 10), (⟨"EachIsHit$Walk", "keepReduced", "(III)I"⟩, 10), (⟨"EachIsHit$Table", "commonWord", "(LEachIsHit$Family;II)J"⟩, 2), (⟨"EachIsHit", "fillSpare", "(III)Z"⟩, 11), (⟨"EachIsHit", "isNoRule", "(I)Z"⟩, 11), (⟨"EachIsHit", "tellsNow", "(II)I"⟩, 11), (⟨"EachIsHit", "tells", "(III)I"⟩, 11), (⟨"EachIsHit", "tellsByParts", "(LEachIsHit$Rule;II)I"⟩, 11), (⟨"EachIsHit", "tellsAlone", "(LEachIsHit$Rule;I)I"⟩, 11), (⟨"EachIsHit", "rankOf", "(II)I"⟩, 11), (⟨"EachIsHitModel", "remembers", "(III)V"⟩, 39), (⟨"EachIsHitModel", "tallyOf", "(II)I"⟩, 39), (⟨"EachIsHitModel", "placeOf", "(II)I"⟩, 39)]
theorem lw_r1 : ∀ q ∈ lw_privs_1, lw_okq q := List.forall_mem_cons.mpr ⟨lw_p0, List.forall_mem_cons.mpr ⟨lw_p1, List.forall_mem_cons.mpr ⟨lw_p2, List.forall_mem_cons.mpr ⟨lw_p3, List.forall_mem_cons.mpr ⟨lw_p4, List.forall_mem_cons.mpr ⟨lw_p5, List.forall_mem_cons.mpr ⟨lw_p6, List.forall_mem_cons.mpr ⟨lw_p7, List.forall_mem_cons.mpr ⟨lw_p8, List.forall_mem_cons.mpr ⟨lw_p9, List.forall_mem_cons.mpr ⟨lw_p10, List.forall_mem_cons.mpr ⟨lw_p11, List.forall_mem_cons.mpr ⟨lw_p12, List.forall_mem_cons.mpr ⟨lw_p13, List.forall_mem_cons.mpr ⟨lw_p14, List.forall_mem_cons.mpr ⟨lw_p15, fun _ h => absurd h List.not_mem_nil⟩⟩⟩⟩⟩⟩⟩⟩⟩⟩⟩⟩⟩⟩⟩⟩
theorem lw_p16 : lw_okq (⟨"EachIsHitModel", "setOf", "(II)I"⟩, 39) := ⟨⟨by decide +kernel, by decide +kernel⟩, List.mem_of_getElem? (i := 744) (by decide +kernel), List.mem_of_getElem? (i := 909) (by decide +kernel), List.mem_of_getElem? (i := 910) (by decide +kernel)⟩
theorem lw_p17 : lw_okq (⟨"EachIsHitModel", "tells", "(II)I"⟩, 39) := ⟨⟨by decide +kernel, by decide +kernel⟩, List.mem_of_getElem? (i := 744) (by decide +kernel), List.mem_of_getElem? (i := 913) (by decide +kernel), List.mem_of_getElem? (i := 914) (by decide +kernel)⟩
theorem lw_p18 : lw_okq (⟨"EachIsHitModel", "takes", "(II)I"⟩, 39) := ⟨⟨by decide +kernel, by decide +kernel⟩, List.mem_of_getElem? (i := 744) (by decide +kernel), List.mem_of_getElem? (i := 921) (by decide +kernel), List.mem_of_getElem? (i := 922) (by decide +kernel)⟩
theorem lw_p19 : lw_okq (⟨"EachIsHitModel", "drops", "(II)V"⟩, 39) := ⟨⟨by decide +kernel, by decide +kernel⟩, List.mem_of_getElem? (i := 744) (by decide +kernel), List.mem_of_getElem? (i := 925) (by decide +kernel), List.mem_of_getElem? (i := 926) (by decide +kernel)⟩
theorem lw_p20 : lw_okq (⟨"EachIsHitModel", "oftenIn", "(II)I"⟩, 39) := ⟨⟨by decide +kernel, by decide +kernel⟩, List.mem_of_getElem? (i := 744) (by decide +kernel), List.mem_of_getElem? (i := 957) (by decide +kernel), List.mem_of_getElem? (i := 958) (by decide +kernel)⟩
theorem lw_p21 : lw_okq (⟨"EachIsHitModel", "hasPart", "(II)Z"⟩, 39) := ⟨⟨by decide +kernel, by decide +kernel⟩, List.mem_of_getElem? (i := 744) (by decide +kernel), List.mem_of_getElem? (i := 969) (by decide +kernel), List.mem_of_getElem? (i := 970) (by decide +kernel)⟩
theorem lw_p22 : lw_okq (⟨"EachIsHitModel", "does", "(III)Z"⟩, 39) := ⟨⟨by decide +kernel, by decide +kernel⟩, List.mem_of_getElem? (i := 744) (by decide +kernel), List.mem_of_getElem? (i := 988) (by decide +kernel), List.mem_of_getElem? (i := 989) (by decide +kernel)⟩
theorem lw_p23 : lw_okq (⟨"EachIsHitModel", "wants", "(I)V"⟩, 39) := ⟨⟨by decide +kernel, by decide +kernel⟩, List.mem_of_getElem? (i := 744) (by decide +kernel), List.mem_of_getElem? (i := 992) (by decide +kernel), List.mem_of_getElem? (i := 993) (by decide +kernel)⟩
theorem lw_p24 : lw_okq (⟨"EachIsHitModel", "hits", "(I)I"⟩, 39) := ⟨⟨by decide +kernel, by decide +kernel⟩, List.mem_of_getElem? (i := 744) (by decide +kernel), List.mem_of_getElem? (i := 996) (by decide +kernel), List.mem_of_getElem? (i := 997) (by decide +kernel)⟩
theorem lw_p25 : lw_okq (⟨"EachIsHitModel", "findsDual", "(I)V"⟩, 39) := ⟨⟨by decide +kernel, by decide +kernel⟩, List.mem_of_getElem? (i := 744) (by decide +kernel), List.mem_of_getElem? (i := 1012) (by decide +kernel), List.mem_of_getElem? (i := 1013) (by decide +kernel)⟩
theorem lw_p26 : lw_okq (⟨"EachIsHitModel", "findsLeast", "()V"⟩, 39) := ⟨⟨by decide +kernel, by decide +kernel⟩, List.mem_of_getElem? (i := 744) (by decide +kernel), List.mem_of_getElem? (i := 1016) (by decide +kernel), List.mem_of_getElem? (i := 1017) (by decide +kernel)⟩
theorem lw_p27 : lw_okq (⟨"EachIsHitModel", "leastAt", "(I)I"⟩, 39) := ⟨⟨by decide +kernel, by decide +kernel⟩, List.mem_of_getElem? (i := 744) (by decide +kernel), List.mem_of_getElem? (i := 1020) (by decide +kernel), List.mem_of_getElem? (i := 1021) (by decide +kernel)⟩
theorem lw_p28 : lw_okq (⟨"EachIsHitModel", "findsTree", "(II)V"⟩, 39) := ⟨⟨by decide +kernel, by decide +kernel⟩, List.mem_of_getElem? (i := 744) (by decide +kernel), List.mem_of_getElem? (i := 1037) (by decide +kernel), List.mem_of_getElem? (i := 1038) (by decide +kernel)⟩
theorem lw_p29 : lw_okq (⟨"EachIsHitModel", "thins", "(II)I"⟩, 39) := ⟨⟨by decide +kernel, by decide +kernel⟩, List.mem_of_getElem? (i := 744) (by decide +kernel), List.mem_of_getElem? (i := 1041) (by decide +kernel), List.mem_of_getElem? (i := 1042) (by decide +kernel)⟩
theorem lw_p30 : lw_okq (⟨"EachIsHitModel", "grows", "(III)V"⟩, 39) := ⟨⟨by decide +kernel, by decide +kernel⟩, List.mem_of_getElem? (i := 744) (by decide +kernel), List.mem_of_getElem? (i := 1045) (by decide +kernel), List.mem_of_getElem? (i := 1046) (by decide +kernel)⟩
theorem lw_p31 : lw_okq (⟨"EachIsHitModel", "topOf", "(II)I"⟩, 39) := ⟨⟨by decide +kernel, by decide +kernel⟩, List.mem_of_getElem? (i := 744) (by decide +kernel), List.mem_of_getElem? (i := 1049) (by decide +kernel), List.mem_of_getElem? (i := 1050) (by decide +kernel)⟩
def lw_privs_2 : List (MethodName × Nat) := [(⟨"EachIsHitModel", "setOf", "(II)I"⟩, 39), (⟨"EachIsHitModel", "tells", "(II)I"⟩, 39), (⟨"EachIsHitModel", "takes", "(II)I"⟩, 39), (⟨"EachIsHitModel", "drops", "(II)V"⟩, 39), (⟨"EachIsHitModel", "oftenIn", "(II)I"⟩, 39), (⟨"EachIsHitModel", "hasPart", "(II)Z"⟩, 39), (⟨"EachIsHitModel", "does", "(III)Z"⟩, 39), (⟨"EachIsHitModel", "wants", "(I)V"⟩, 39), (⟨"EachIsHitModel", "hits", "(I)I"⟩, 39), (⟨"EachIsHitModel", "findsDual", "(I)V"⟩, 39), (⟨"EachIsHitModel", "findsLeast", "()V"⟩, 39), (⟨"EachIsHitModel", "leastAt", "(I)I"⟩, 39), (⟨"EachIsHitModel", "findsTree", "(II)V"⟩, 39), (⟨"EachIsHitModel", "thins", "(II)I"⟩, 39), (⟨"EachIsHitModel", "grows", "(III)V"⟩, 39), (⟨"EachIsHitModel", "topOf", "(II)I"⟩, 39)]
theorem lw_r2 : ∀ q ∈ lw_privs_2, lw_okq q := List.forall_mem_cons.mpr ⟨lw_p16, List.forall_mem_cons.mpr ⟨lw_p17, List.forall_mem_cons.mpr ⟨lw_p18, List.forall_mem_cons.mpr ⟨lw_p19, List.forall_mem_cons.mpr ⟨lw_p20, List.forall_mem_cons.mpr ⟨lw_p21, List.forall_mem_cons.mpr ⟨lw_p22, List.forall_mem_cons.mpr ⟨lw_p23, List.forall_mem_cons.mpr ⟨lw_p24, List.forall_mem_cons.mpr ⟨lw_p25, List.forall_mem_cons.mpr ⟨lw_p26, List.forall_mem_cons.mpr ⟨lw_p27, List.forall_mem_cons.mpr ⟨lw_p28, List.forall_mem_cons.mpr ⟨lw_p29, List.forall_mem_cons.mpr ⟨lw_p30, List.forall_mem_cons.mpr ⟨lw_p31, fun _ h => absurd h List.not_mem_nil⟩⟩⟩⟩⟩⟩⟩⟩⟩⟩⟩⟩⟩⟩⟩⟩
theorem lw_p32 : lw_okq (⟨"EachIsHitModel", "supportOf", "(II)I"⟩, 39) := ⟨⟨by decide +kernel, by decide +kernel⟩, List.mem_of_getElem? (i := 744) (by decide +kernel), List.mem_of_getElem? (i := 1068) (by decide +kernel), List.mem_of_getElem? (i := 1069) (by decide +kernel)⟩
theorem lw_p33 : lw_okq (⟨"EachIsHitModel", "isBorder", "(II)Z"⟩, 39) := ⟨⟨by decide +kernel, by decide +kernel⟩, List.mem_of_getElem? (i := 744) (by decide +kernel), List.mem_of_getElem? (i := 1077) (by decide +kernel), List.mem_of_getElem? (i := 1078) (by decide +kernel)⟩
theorem lw_p34 : lw_okq (⟨"EachIsHitModel", "isRule", "(I)Z"⟩, 39) := ⟨⟨by decide +kernel, by decide +kernel⟩, List.mem_of_getElem? (i := 744) (by decide +kernel), List.mem_of_getElem? (i := 1103) (by decide +kernel), List.mem_of_getElem? (i := 1104) (by decide +kernel)⟩
theorem lw_p35 : lw_okq (⟨"EachIsHitModel", "worthOf", "(II)I"⟩, 39) := ⟨⟨by decide +kernel, by decide +kernel⟩, List.mem_of_getElem? (i := 744) (by decide +kernel), List.mem_of_getElem? (i := 1117) (by decide +kernel), List.mem_of_getElem? (i := 1118) (by decide +kernel)⟩
theorem lw_p36 : lw_okq (⟨"EachIsHitModel", "first", "(II)I"⟩, 39) := ⟨⟨by decide +kernel, by decide +kernel⟩, List.mem_of_getElem? (i := 744) (by decide +kernel), List.mem_of_getElem? (i := 1121) (by decide +kernel), List.mem_of_getElem? (i := 1122) (by decide +kernel)⟩
theorem lw_p37 : lw_okq (⟨"EachIsHitModel", "metBy", "(II)I"⟩, 39) := ⟨⟨by decide +kernel, by decide +kernel⟩, List.mem_of_getElem? (i := 744) (by decide +kernel), List.mem_of_getElem? (i := 1125) (by decide +kernel), List.mem_of_getElem? (i := 1126) (by decide +kernel)⟩
theorem lw_p38 : lw_okq (⟨"EachIsHitModel", "wrong", "(II)I"⟩, 39) := ⟨⟨by decide +kernel, by decide +kernel⟩, List.mem_of_getElem? (i := 744) (by decide +kernel), List.mem_of_getElem? (i := 1153) (by decide +kernel), List.mem_of_getElem? (i := 1154) (by decide +kernel)⟩
theorem lw_p39 : lw_okq (⟨"EachIsHitModel", "noLongs", "(I)I"⟩, 39) := ⟨⟨by decide +kernel, by decide +kernel⟩, List.mem_of_getElem? (i := 744) (by decide +kernel), List.mem_of_getElem? (i := 1165) (by decide +kernel), List.mem_of_getElem? (i := 1166) (by decide +kernel)⟩
theorem lw_p40 : lw_okq (⟨"EachIsHitModel", "allHeld", "()I"⟩, 39) := ⟨⟨by decide +kernel, by decide +kernel⟩, List.mem_of_getElem? (i := 744) (by decide +kernel), List.mem_of_getElem? (i := 1187) (by decide +kernel), List.mem_of_getElem? (i := 1188) (by decide +kernel)⟩
def lw_privs_3 : List (MethodName × Nat) := [(⟨"EachIsHitModel", "supportOf", "(II)I"⟩, 39), (⟨"EachIsHitModel", "isBorder", "(II)Z"⟩, 39), (⟨"EachIsHitModel", "isRule", "(I)Z"⟩, 39), (⟨"EachIsHitModel", "worthOf", "(II)I"⟩, 39), (⟨"EachIsHitModel", "first", "(II)I"⟩, 39), (⟨"EachIsHitModel", "metBy", "(II)I"⟩, 39), (⟨"EachIsHitModel", "wrong", "(II)I"⟩, 39), (⟨"EachIsHitModel", "noLongs", "(I)I"⟩, 39), (⟨"EachIsHitModel", "allHeld", "()I"⟩, 39)]
theorem lw_r3 : ∀ q ∈ lw_privs_3, lw_okq q := List.forall_mem_cons.mpr ⟨lw_p32, List.forall_mem_cons.mpr ⟨lw_p33, List.forall_mem_cons.mpr ⟨lw_p34, List.forall_mem_cons.mpr ⟨lw_p35, List.forall_mem_cons.mpr ⟨lw_p36, List.forall_mem_cons.mpr ⟨lw_p37, List.forall_mem_cons.mpr ⟨lw_p38, List.forall_mem_cons.mpr ⟨lw_p39, List.forall_mem_cons.mpr ⟨lw_p40, fun _ h => absurd h List.not_mem_nil⟩⟩⟩⟩⟩⟩⟩⟩⟩
def lw_privs : List (MethodName × Nat) := lw_privs_1 ++ (lw_privs_2 ++ (lw_privs_3))
def lw_tbl : List Cond := k2_sels lw_privs ++ tables_1
theorem lw_privs_ok : ∀ q ∈ lw_privs, lw_okq q := by
  show ∀ q ∈ lw_privs_1 ++ (lw_privs_2 ++ (lw_privs_3)), lw_okq q
  exact List.forall_mem_append.mpr ⟨lw_r1, List.forall_mem_append.mpr ⟨lw_r2, lw_r3⟩⟩
/-! names, fields (printed) -/
def RX0 : String := "EachIsHit$Acts"
def TX0 : u_T := fun k => match k with
  | 0 => ("EachIsHit$Acts", "kinds", "[I", true)
  | 1 => ("EachIsHit$Acts", "wheres", "[I", true)
  | 2 => ("EachIsHit$Acts", "whats", "[I", true)
  | _ => ("EachIsHit$Acts", "known", "I", false)
def tyX0 : Nat → FieldType := fun k => match k with
  | 0 => .array .int
  | 1 => .array .int
  | 2 => .array .int
  | _ => .int
abbrev wsX00 : List Cond := u_ws RX0 TX0 4
theorem nmX0 : ∀ a, a < 4 → ∀ b, b < 4 → a ≠ b → (TX0 a).2.1 ≠ (TX0 b).2.1 := by decide +kernel
theorem tyX0_ok : ∀ k, k < 4 → parseFieldDescriptor (TX0 k).2.2.1 = some (tyX0 k) := by decide +kernel
abbrev cX0_init : ByteArray := prog_2_method_1_code
def yX0_init : MethodName := ⟨RX0, "<init>", "()V"⟩
abbrev cX0_remember : ByteArray := prog_2_method_2_code
def yX0_remember : MethodName := ⟨RX0, "remember", "(III)V"⟩
abbrev cX0_forgetOldest : ByteArray := prog_2_method_3_code
def yX0_forgetOldest : MethodName := ⟨RX0, "forgetOldest", "()V"⟩
abbrev cX0_forgetLast : ByteArray := prog_2_method_4_code
def yX0_forgetLast : MethodName := ⟨RX0, "forgetLast", "()I"⟩
abbrev cX0_forgetAll : ByteArray := prog_2_method_5_code
def yX0_forgetAll : MethodName := ⟨RX0, "forgetAll", "()V"⟩
def RX1 : String := "EachIsHit$Family"
def TX1 : u_T := fun k => match k with
  | 0 => ("EachIsHit$Family", "sets", "[I", true)
  | 1 => ("EachIsHit$Family", "tallies", "[I", true)
  | _ => ("EachIsHit$Family", "held", "I", false)
def tyX1 : Nat → FieldType := fun k => match k with
  | 0 => .array .int
  | 1 => .array .int
  | _ => .int
abbrev wsX10 : List Cond := u_ws RX1 TX1 3
theorem nmX1 : ∀ a, a < 3 → ∀ b, b < 3 → a ≠ b → (TX1 a).2.1 ≠ (TX1 b).2.1 := by decide +kernel
theorem tyX1_ok : ∀ k, k < 3 → parseFieldDescriptor (TX1 k).2.2.1 = some (tyX1 k) := by decide +kernel
abbrev cX1_init : ByteArray := prog_3_method_1_code
def yX1_init : MethodName := ⟨RX1, "<init>", "()V"⟩
abbrev cX1_placeOf : ByteArray := prog_3_method_2_code
def yX1_placeOf : MethodName := ⟨RX1, "placeOf", "(I)I"⟩
abbrev cX1_tallyOf : ByteArray := prog_3_method_3_code
def yX1_tallyOf : MethodName := ⟨RX1, "tallyOf", "(I)I"⟩
abbrev cX1_add : ByteArray := prog_3_method_4_code
def yX1_add : MethodName := ⟨RX1, "add", "(I)I"⟩
abbrev cX1_append : ByteArray := prog_3_method_5_code
def yX1_append : MethodName := ⟨RX1, "append", "(II)I"⟩
abbrev cX1_drop : ByteArray := prog_3_method_6_code
def yX1_drop : MethodName := ⟨RX1, "drop", "(I)I"⟩
abbrev cX1_removeAt : ByteArray := prog_3_method_7_code
def yX1_removeAt : MethodName := ⟨RX1, "removeAt", "(I)V"⟩
abbrev cX1_clear : ByteArray := prog_3_method_8_code
def yX1_clear : MethodName := ⟨RX1, "clear", "()V"⟩
abbrev cX1_become : ByteArray := prog_3_method_9_code
def yX1_become : MethodName := ⟨RX1, "become", "(LEachIsHit$Family;)V"⟩
abbrev cX1_countWith : ByteArray := prog_3_method_10_code
def yX1_countWith : MethodName := ⟨RX1, "countWith", "(I)I"⟩
abbrev cX1_countMet : ByteArray := prog_3_method_11_code
def yX1_countMet : MethodName := ⟨RX1, "countMet", "(I)I"⟩
abbrev cX1_hasPart : ByteArray := prog_3_method_12_code
def yX1_hasPart : MethodName := ⟨RX1, "hasPart", "(I)Z"⟩
abbrev cX1_talliesAround : ByteArray := prog_3_method_13_code
def yX1_talliesAround : MethodName := ⟨RX1, "talliesAround", "(I)I"⟩
abbrev cX1_firstOutside : ByteArray := prog_3_method_14_code
def yX1_firstOutside : MethodName := ⟨RX1, "firstOutside", "(LEachIsHit$Table;)I"⟩
abbrev cX1_packedFrom : ByteArray := prog_3_method_15_code
def yX1_packedFrom : MethodName := ⟨RX1, "packedFrom", "(I)J"⟩
def RX2 : String := "EachIsHit$Rule"
def TX2 : u_T := fun k => match k with
  | 0 => ("EachIsHit$Rule", "how", "I", false)
  | 1 => ("EachIsHit$Rule", "a", "I", false)
  | 2 => ("EachIsHit$Rule", "b", "I", false)
  | 3 => ("EachIsHit$Rule", "c", "I", false)
  | 4 => ("EachIsHit$Rule", "prices", "[I", true)
  | 5 => ("EachIsHit$Rule", "lastSet", "I", false)
  | _ => ("EachIsHit$Rule", "lastAnswer", "I", false)
def tyX2 : Nat → FieldType := fun k => match k with
  | 0 => .int
  | 1 => .int
  | 2 => .int
  | 3 => .int
  | 4 => .array .int
  | 5 => .int
  | _ => .int
abbrev wsX20 : List Cond := u_ws RX2 TX2 7
theorem nmX2 : ∀ a, a < 7 → ∀ b, b < 7 → a ≠ b → (TX2 a).2.1 ≠ (TX2 b).2.1 := by decide +kernel
theorem tyX2_ok : ∀ k, k < 7 → parseFieldDescriptor (TX2 k).2.2.1 = some (tyX2 k) := by decide +kernel
abbrev cX2_init : ByteArray := prog_4_method_1_code
def yX2_init : MethodName := ⟨RX2, "<init>", "(I)V"⟩
abbrev cX2_become : ByteArray := prog_4_method_2_code
def yX2_become : MethodName := ⟨RX2, "become", "(IIII[I)V"⟩
def RX3 : String := "EachIsHit$Sheet"
def TX3 : u_T := fun k => match k with
  | 0 => ("EachIsHit$Sheet", "row", "[J", true)
  | 1 => ("EachIsHit$Sheet", "sort", "I", false)
  | _ => ("EachIsHit$Sheet", "places", "I", false)
def tyX3 : Nat → FieldType := fun k => match k with
  | 0 => .array .long
  | 1 => .int
  | _ => .int
abbrev wsX30 : List Cond := u_ws RX3 TX3 3
theorem nmX3 : ∀ a, a < 3 → ∀ b, b < 3 → a ≠ b → (TX3 a).2.1 ≠ (TX3 b).2.1 := by decide +kernel
theorem tyX3_ok : ∀ k, k < 3 → parseFieldDescriptor (TX3 k).2.2.1 = some (tyX3 k) := by decide +kernel
abbrev cX3_init : ByteArray := prog_5_method_1_code
def yX3_init : MethodName := ⟨RX3, "<init>", "()V"⟩
abbrev cX3_become : ByteArray := prog_5_method_2_code
def yX3_become : MethodName := ⟨RX3, "become", "(II)V"⟩
abbrev cX3_put : ByteArray := prog_5_method_3_code
def yX3_put : MethodName := ⟨RX3, "put", "(IJ)Z"⟩
abbrev cX3_packedAt : ByteArray := prog_5_method_4_code
def yX3_packedAt : MethodName := ⟨RX3, "packedAt", "(I)I"⟩
def RX4 : String := "EachIsHit$Stock"
def TX4 : u_T := fun k => match k with
  | 0 => ("EachIsHit$Stock", "prices", "[I", true)
  | 1 => ("EachIsHit$Stock", "families", "[LEachIsHit$Family;", true)
  | _ => ("EachIsHit$Stock", "rules", "I", false)
def tyX4 : Nat → FieldType := fun k => match k with
  | 0 => .array .int
  | 1 => .array (.object "EachIsHit$Family")
  | _ => .int
abbrev wsX40 : List Cond := u_ws RX4 TX4 3
theorem nmX4 : ∀ a, a < 3 → ∀ b, b < 3 → a ≠ b → (TX4 a).2.1 ≠ (TX4 b).2.1 := by decide +kernel
theorem tyX4_ok : ∀ k, k < 3 → parseFieldDescriptor (TX4 k).2.2.1 = some (tyX4 k) := by decide +kernel
abbrev cX4_init : ByteArray := prog_6_method_1_code
def yX4_init : MethodName := ⟨RX4, "<init>", "()V"⟩
abbrev cX4_become : ByteArray := prog_6_method_2_code
def yX4_become : MethodName := ⟨RX4, "become", "(LEachIsHit$Stock;)V"⟩
abbrev cX4_heldInAll : ByteArray := prog_6_method_3_code
def yX4_heldInAll : MethodName := ⟨RX4, "heldInAll", "()I"⟩
def RX5 : String := "EachIsHit$Table"
def TX5 : u_T := fun k => match k with
  | 0 => ("EachIsHit$Table", "words", "[J", true)
  | _ => ("EachIsHit$Table", "supports", "[I", true)
def tyX5 : Nat → FieldType := fun k => match k with
  | 0 => .array .long
  | _ => .array .int
abbrev wsX50 : List Cond := u_ws RX5 TX5 2
theorem nmX5 : ∀ a, a < 2 → ∀ b, b < 2 → a ≠ b → (TX5 a).2.1 ≠ (TX5 b).2.1 := by decide +kernel
theorem tyX5_ok : ∀ k, k < 2 → parseFieldDescriptor (TX5 k).2.2.1 = some (tyX5 k) := by decide +kernel
abbrev cX5_init : ByteArray := prog_7_method_1_code
def yX5_init : MethodName := ⟨RX5, "<init>", "()V"⟩
abbrev cX5_put : ByteArray := prog_7_method_2_code
def yX5_put : MethodName := ⟨RX5, "put", "(I)V"⟩
abbrev cX5_has : ByteArray := prog_7_method_3_code
def yX5_has : MethodName := ⟨RX5, "has", "(I)Z"⟩
abbrev cX5_flip : ByteArray := prog_7_method_4_code
def yX5_flip : MethodName := ⟨RX5, "flip", "()V"⟩
abbrev cX5_addParts : ByteArray := prog_7_method_5_code
def yX5_addParts : MethodName := ⟨RX5, "addParts", "()V"⟩
abbrev cX5_addWholes : ByteArray := prog_7_method_6_code
def yX5_addWholes : MethodName := ⟨RX5, "addWholes", "()V"⟩
abbrev cX5_becomeSetsOf : ByteArray := prog_7_method_7_code
def yX5_becomeSetsOf : MethodName := ⟨RX5, "becomeSetsOf", "(LEachIsHit$Family;)V"⟩
abbrev cX5_becomeHitting : ByteArray := prog_7_method_8_code
def yX5_becomeHitting : MethodName := ⟨RX5, "becomeHitting", "(LEachIsHit$Family;)V"⟩
abbrev cX5_becomeTelling : ByteArray := prog_7_method_9_code
def yX5_becomeTelling : MethodName := ⟨RX5, "becomeTelling", "(LEachIsHit$Family;)V"⟩
abbrev cX5_becomeOdd : ByteArray := prog_7_method_10_code
def yX5_becomeOdd : MethodName := ⟨RX5, "becomeOdd", "(LEachIsHit$Family;)V"⟩
abbrev cX5_keepOdd : ByteArray := prog_7_method_11_code
def yX5_keepOdd : MethodName := ⟨RX5, "keepOdd", "(I)V"⟩
abbrev cX5_becomeCommon : ByteArray := prog_7_method_12_code
def yX5_becomeCommon : MethodName := ⟨RX5, "becomeCommon", "(LEachIsHit$Family;I)V"⟩
abbrev cX5_commonWord : ByteArray := prog_7_method_13_code
def yX5_commonWord : MethodName := ⟨RX5, "commonWord", "(LEachIsHit$Family;II)J"⟩
abbrev cX5_becomeLeastOf : ByteArray := prog_7_method_14_code
def yX5_becomeLeastOf : MethodName := ⟨RX5, "becomeLeastOf", "(LEachIsHit$Table;)V"⟩
abbrev cX5_becomeGreatestOf : ByteArray := prog_7_method_15_code
def yX5_becomeGreatestOf : MethodName := ⟨RX5, "becomeGreatestOf", "(LEachIsHit$Table;)V"⟩
abbrev cX5_countAll : ByteArray := prog_7_method_16_code
def yX5_countAll : MethodName := ⟨RX5, "countAll", "()I"⟩
abbrev cX5_countOf : ByteArray := prog_7_method_17_code
def yX5_countOf : MethodName := ⟨RX5, "countOf", "(I)I"⟩
abbrev cX5_pick : ByteArray := prog_7_method_18_code
def yX5_pick : MethodName := ⟨RX5, "pick", "(I)I"⟩
abbrev cX5_placeOfBit : ByteArray := prog_7_method_19_code
def yX5_placeOfBit : MethodName := ⟨RX5, "placeOfBit", "(JI)I"⟩
abbrev cX5_next : ByteArray := prog_7_method_20_code
def yX5_next : MethodName := ⟨RX5, "next", "(I)I"⟩
def RX6 : String := "EachIsHit$Walk"
def TX6 : u_T := fun k => match k with
  | 0 => ("EachIsHit$Walk", "rows", "[[I", true)
  | 1 => ("EachIsHit$Walk", "wanted", "I", false)
  | 2 => ("EachIsHit$Walk", "nodes", "I", false)
  | 3 => ("EachIsHit$Walk", "deepest", "I", false)
  | 4 => ("EachIsHit$Walk", "bare", "I", false)
  | 5 => ("EachIsHit$Walk", "isFound", "Z", false)
  | 6 => ("EachIsHit$Walk", "point", "I", false)
  | 7 => ("EachIsHit$Walk", "sets", "I", false)
  | 8 => ("EachIsHit$Walk", "depth", "I", false)
  | _ => ("EachIsHit$Walk", "had", "I", false)
def tyX6 : Nat → FieldType := fun k => match k with
  | 0 => .array (.array .int)
  | 1 => .int
  | 2 => .int
  | 3 => .int
  | 4 => .int
  | 5 => .boolean
  | 6 => .int
  | 7 => .int
  | 8 => .int
  | _ => .int
abbrev wsX60 : List Cond := u_ws RX6 TX6 10
theorem nmX6 : ∀ a, a < 10 → ∀ b, b < 10 → a ≠ b → (TX6 a).2.1 ≠ (TX6 b).2.1 := by decide +kernel
theorem tyX6_ok : ∀ k, k < 10 → parseFieldDescriptor (TX6 k).2.2.1 = some (tyX6 k) := by decide +kernel
abbrev cX6_init : ByteArray := prog_8_method_1_code
def yX6_init : MethodName := ⟨RX6, "<init>", "()V"⟩
abbrev cX6_start : ByteArray := prog_8_method_2_code
def yX6_start : MethodName := ⟨RX6, "start", "(LEachIsHit$Family;I)V"⟩
abbrev cX6_visit : ByteArray := prog_8_method_3_code
def yX6_visit : MethodName := ⟨RX6, "visit", "(III)V"⟩
abbrev cX6_keepWithout : ByteArray := prog_8_method_4_code
def yX6_keepWithout : MethodName := ⟨RX6, "keepWithout", "(III)I"⟩
abbrev cX6_keepReduced : ByteArray := prog_8_method_5_code
def yX6_keepReduced : MethodName := ⟨RX6, "keepReduced", "(III)I"⟩
abbrev cX6_hasPartIn : ByteArray := prog_8_method_6_code
def yX6_hasPartIn : MethodName := ⟨RX6, "hasPartIn", "([III)Z"⟩
def RX7 : String := "EachIsHit"
def TX7 : u_T := fun k => match k with
  | 0 => ("EachIsHit", "now", "LEachIsHit$Stock;", true)
  | 1 => ("EachIsHit", "kept", "LEachIsHit$Stock;", true)
  | 2 => ("EachIsHit", "isKept", "Z", false)
  | 3 => ("EachIsHit", "rules", "[LEachIsHit$Rule;", true)
  | 4 => ("EachIsHit", "acts", "LEachIsHit$Acts;", true)
  | 5 => ("EachIsHit", "sheets", "[LEachIsHit$Sheet;", true)
  | 6 => ("EachIsHit", "walk", "LEachIsHit$Walk;", true)
  | 7 => ("EachIsHit", "spare", "LEachIsHit$Family;", true)
  | 8 => ("EachIsHit", "hits", "LEachIsHit$Table;", true)
  | 9 => ("EachIsHit", "least", "LEachIsHit$Table;", true)
  | _ => ("EachIsHit", "worths", "[I", true)
def tyX7 : Nat → FieldType := fun k => match k with
  | 0 => .object "EachIsHit$Stock"
  | 1 => .object "EachIsHit$Stock"
  | 2 => .boolean
  | 3 => .array (.object "EachIsHit$Rule")
  | 4 => .object "EachIsHit$Acts"
  | 5 => .array (.object "EachIsHit$Sheet")
  | 6 => .object "EachIsHit$Walk"
  | 7 => .object "EachIsHit$Family"
  | 8 => .object "EachIsHit$Table"
  | 9 => .object "EachIsHit$Table"
  | _ => .array .int
abbrev wsX70 : List Cond := u_ws RX7 TX7 11
theorem nmX7 : ∀ a, a < 11 → ∀ b, b < 11 → a ≠ b → (TX7 a).2.1 ≠ (TX7 b).2.1 := by decide +kernel
theorem tyX7_ok : ∀ k, k < 11 → parseFieldDescriptor (TX7 k).2.2.1 = some (tyX7 k) := by decide +kernel
abbrev cX7_init : ByteArray := prog_1_method_1_code
def yX7_init : MethodName := ⟨RX7, "<init>", "()V"⟩
abbrev cX7_price : ByteArray := prog_1_method_2_code
def yX7_price : MethodName := ⟨RX7, "price", "(II)I"⟩
abbrev cX7_priceOf : ByteArray := prog_1_method_3_code
def yX7_priceOf : MethodName := ⟨RX7, "priceOf", "(I)I"⟩
abbrev cX7_tell : ByteArray := prog_1_method_4_code
def yX7_tell : MethodName := ⟨RX7, "tell", "(II)I"⟩
abbrev cX7_take : ByteArray := prog_1_method_5_code
def yX7_take : MethodName := ⟨RX7, "take", "(II)I"⟩
abbrev cX7_tally : ByteArray := prog_1_method_6_code
def yX7_tally : MethodName := ⟨RX7, "tally", "(II)I"⟩
abbrev cX7_at : ByteArray := prog_1_method_7_code
def yX7_at : MethodName := ⟨RX7, "at", "(II)I"⟩
abbrev cX7_size : ByteArray := prog_1_method_8_code
def yX7_size : MethodName := ⟨RX7, "size", "(I)I"⟩
abbrev cX7_wipe : ByteArray := prog_1_method_9_code
def yX7_wipe : MethodName := ⟨RX7, "wipe", "(I)I"⟩
abbrev cX7_copy : ByteArray := prog_1_method_10_code
def yX7_copy : MethodName := ⟨RX7, "copy", "(II)I"⟩
abbrev cX7_undo : ByteArray := prog_1_method_11_code
def yX7_undo : MethodName := ⟨RX7, "undo", "()I"⟩
abbrev cX7_often : ByteArray := prog_1_method_12_code
def yX7_often : MethodName := ⟨RX7, "often", "(II)I"⟩
abbrev cX7_top : ByteArray := prog_1_method_13_code
def yX7_top : MethodName := ⟨RX7, "top", "(I)I"⟩
abbrev cX7_isSimple : ByteArray := prog_1_method_14_code
def yX7_isSimple : MethodName := ⟨RX7, "isSimple", "(I)I"⟩
abbrev cX7_lean : ByteArray := prog_1_method_15_code
def yX7_lean : MethodName := ⟨RX7, "lean", "(I)I"⟩
abbrev cX7_test : ByteArray := prog_1_method_16_code
def yX7_test : MethodName := ⟨RX7, "test", "(III)I"⟩
abbrev cX7_counted : ByteArray := prog_1_method_17_code
def yX7_counted : MethodName := ⟨RX7, "counted", "(IIII)I"⟩
abbrev cX7_dual : ByteArray := prog_1_method_18_code
def yX7_dual : MethodName := ⟨RX7, "dual", "(II)I"⟩
abbrev cX7_into : ByteArray := prog_1_method_19_code
def yX7_into : MethodName := ⟨RX7, "into", "(II)I"⟩
abbrev cX7_verdict : ByteArray := prog_1_method_20_code
def yX7_verdict : MethodName := ⟨RX7, "verdict", "(III)I"⟩
abbrev cX7_tree : ByteArray := prog_1_method_21_code
def yX7_tree : MethodName := ⟨RX7, "tree", "(II)I"⟩
abbrev cX7_node : ByteArray := prog_1_method_22_code
def yX7_node : MethodName := ⟨RX7, "node", "(III)I"⟩
abbrev cX7_keys : ByteArray := prog_1_method_23_code
def yX7_keys : MethodName := ⟨RX7, "keys", "(II)I"⟩
abbrev cX7_support : ByteArray := prog_1_method_24_code
def yX7_support : MethodName := ⟨RX7, "support", "(II)I"⟩
abbrev cX7_border : ByteArray := prog_1_method_25_code
def yX7_border : MethodName := ⟨RX7, "border", "(IIII)I"⟩
abbrev cX7_make : ByteArray := prog_1_method_26_code
def yX7_make : MethodName := ⟨RX7, "make", "(IIII)I"⟩
abbrev cX7_rule : ByteArray := prog_1_method_27_code
def yX7_rule : MethodName := ⟨RX7, "rule", "(IIII)I"⟩
abbrev cX7_worth : ByteArray := prog_1_method_28_code
def yX7_worth : MethodName := ⟨RX7, "worth", "(II)I"⟩
abbrev cX7_best : ByteArray := prog_1_method_29_code
def yX7_best : MethodName := ⟨RX7, "best", "(III)I"⟩
abbrev cX7_ranked : ByteArray := prog_1_method_30_code
def yX7_ranked : MethodName := ⟨RX7, "ranked", "(III)I"⟩
abbrev cX7_sums : ByteArray := prog_1_method_31_code
def yX7_sums : MethodName := ⟨RX7, "sums", "(II)I"⟩
abbrev cX7_sheet : ByteArray := prog_1_method_32_code
def yX7_sheet : MethodName := ⟨RX7, "sheet", "(III)I"⟩
abbrev cX7_cell : ByteArray := prog_1_method_33_code
def yX7_cell : MethodName := ⟨RX7, "cell", "(IIJ)I"⟩
abbrev cX7_read : ByteArray := prog_1_method_34_code
def yX7_read : MethodName := ⟨RX7, "read", "(II)J"⟩
abbrev cX7_packs : ByteArray := prog_1_method_35_code
def yX7_packs : MethodName := ⟨RX7, "packs", "(II)I"⟩
abbrev cX7_unpacks : ByteArray := prog_1_method_36_code
def yX7_unpacks : MethodName := ⟨RX7, "unpacks", "(III)I"⟩
abbrev cX7_freqs : ByteArray := prog_1_method_37_code
def yX7_freqs : MethodName := ⟨RX7, "freqs", "(II)I"⟩
abbrev cX7_image : ByteArray := prog_1_method_38_code
def yX7_image : MethodName := ⟨RX7, "image", "()I"⟩
abbrev cX7_back : ByteArray := prog_1_method_39_code
def yX7_back : MethodName := ⟨RX7, "back", "()I"⟩
abbrev cX7_count : ByteArray := prog_1_method_40_code
def yX7_count : MethodName := ⟨RX7, "count", "(I)I"⟩
abbrev cX7_isNoPoint : ByteArray := prog_1_method_41_code
def yX7_isNoPoint : MethodName := ⟨RX7, "isNoPoint", "(I)Z"⟩
abbrev cX7_isNoSet : ByteArray := prog_1_method_42_code
def yX7_isNoSet : MethodName := ⟨RX7, "isNoSet", "(I)Z"⟩
abbrev cX7_isNoFamily : ByteArray := prog_1_method_43_code
def yX7_isNoFamily : MethodName := ⟨RX7, "isNoFamily", "(I)Z"⟩
abbrev cX7_isNoSheet : ByteArray := prog_1_method_44_code
def yX7_isNoSheet : MethodName := ⟨RX7, "isNoSheet", "(I)Z"⟩
abbrev cX7_isNoTest : ByteArray := prog_1_method_45_code
def yX7_isNoTest : MethodName := ⟨RX7, "isNoTest", "(I)Z"⟩
abbrev cX7_isNoRule : ByteArray := prog_1_method_46_code
def yX7_isNoRule : MethodName := ⟨RX7, "isNoRule", "(I)Z"⟩
abbrev cX7_hasPoint : ByteArray := prog_1_method_47_code
def yX7_hasPoint : MethodName := ⟨RX7, "hasPoint", "(II)Z"⟩
abbrev cX7_isPart : ByteArray := prog_1_method_48_code
def yX7_isPart : MethodName := ⟨RX7, "isPart", "(II)Z"⟩
abbrev cX7_topPoint : ByteArray := prog_1_method_49_code
def yX7_topPoint : MethodName := ⟨RX7, "topPoint", "([II)I"⟩
abbrev cX7_findDual : ByteArray := prog_1_method_50_code
def yX7_findDual : MethodName := ⟨RX7, "findDual", "(LEachIsHit$Family;)V"⟩
abbrev cX7_tableOf : ByteArray := prog_1_method_51_code
def yX7_tableOf : MethodName := ⟨RX7, "tableOf", "(ILEachIsHit$Family;)LEachIsHit$Table;"⟩
abbrev cX7_listed : ByteArray := prog_1_method_52_code
def yX7_listed : MethodName := ⟨RX7, "listed", "(LEachIsHit$Table;I)I"⟩
abbrev cX7_firstNotHeld : ByteArray := prog_1_method_53_code
def yX7_firstNotHeld : MethodName := ⟨RX7, "firstNotHeld", "(LEachIsHit$Table;LEachIsHit$Family;)I"⟩
abbrev cX7_canMake : ByteArray := prog_1_method_54_code
def yX7_canMake : MethodName := ⟨RX7, "canMake", "(III)Z"⟩
abbrev cX7_fillSpare : ByteArray := prog_1_method_55_code
def yX7_fillSpare : MethodName := ⟨RX7, "fillSpare", "(III)Z"⟩
abbrev cX7_madeSet : ByteArray := prog_1_method_56_code
def yX7_madeSet : MethodName := ⟨RX7, "madeSet", "(IIII)I"⟩
abbrev cX7_ringSet : ByteArray := prog_1_method_57_code
def yX7_ringSet : MethodName := ⟨RX7, "ringSet", "(III)I"⟩
abbrev cX7_classSet : ByteArray := prog_1_method_58_code
def yX7_classSet : MethodName := ⟨RX7, "classSet", "(II)I"⟩
abbrev cX7_asksFirst : ByteArray := prog_1_method_59_code
def yX7_asksFirst : MethodName := ⟨RX7, "asksFirst", "(I)Z"⟩
abbrev cX7_asksSecond : ByteArray := prog_1_method_60_code
def yX7_asksSecond : MethodName := ⟨RX7, "asksSecond", "(I)Z"⟩
abbrev cX7_fitsHow : ByteArray := prog_1_method_61_code
def yX7_fitsHow : MethodName := ⟨RX7, "fitsHow", "(II)Z"⟩
abbrev cX7_tellsNow : ByteArray := prog_1_method_62_code
def yX7_tellsNow : MethodName := ⟨RX7, "tellsNow", "(II)I"⟩
abbrev cX7_tells : ByteArray := prog_1_method_63_code
def yX7_tells : MethodName := ⟨RX7, "tells", "(III)I"⟩
abbrev cX7_tellsByParts : ByteArray := prog_1_method_64_code
def yX7_tellsByParts : MethodName := ⟨RX7, "tellsByParts", "(LEachIsHit$Rule;II)I"⟩
abbrev cX7_tellsAlone : ByteArray := prog_1_method_65_code
def yX7_tellsAlone : MethodName := ⟨RX7, "tellsAlone", "(LEachIsHit$Rule;I)I"⟩
abbrev cX7_shifted : ByteArray := prog_1_method_66_code
def yX7_shifted : MethodName := ⟨RX7, "shifted", "(II)I"⟩
abbrev cX7_priceOfAll : ByteArray := prog_1_method_67_code
def yX7_priceOfAll : MethodName := ⟨RX7, "priceOfAll", "(I[I)I"⟩
abbrev cX7_dearest : ByteArray := prog_1_method_68_code
def yX7_dearest : MethodName := ⟨RX7, "dearest", "(I[I)I"⟩
abbrev cX7_rankOf : ByteArray := prog_1_method_69_code
def yX7_rankOf : MethodName := ⟨RX7, "rankOf", "(II)I"⟩
def RX8 : String := "EachIsHitModel"
def TX8 : u_T := fun k => match k with
  | 0 => ("EachIsHitModel", "price", "[I", true)
  | 1 => ("EachIsHitModel", "sizes", "[I", true)
  | 2 => ("EachIsHitModel", "sets", "[I", true)
  | 3 => ("EachIsHitModel", "tallies", "[I", true)
  | 4 => ("EachIsHitModel", "rules", "I", false)
  | 5 => ("EachIsHitModel", "ruleHow", "[I", true)
  | 6 => ("EachIsHitModel", "ruleA", "[I", true)
  | 7 => ("EachIsHitModel", "ruleB", "[I", true)
  | 8 => ("EachIsHitModel", "ruleC", "[I", true)
  | 9 => ("EachIsHitModel", "rulePrice", "[I", true)
  | 10 => ("EachIsHitModel", "acts", "I", false)
  | 11 => ("EachIsHitModel", "actSort", "[I", true)
  | 12 => ("EachIsHitModel", "actOf", "[I", true)
  | 13 => ("EachIsHitModel", "actV", "[I", true)
  | 14 => ("EachIsHitModel", "goes", "[Z", true)
  | 15 => ("EachIsHitModel", "wanted", "[I", true)
  | 16 => ("EachIsHitModel", "wantedMany", "I", false)
  | 17 => ("EachIsHitModel", "least", "[I", true)
  | 18 => ("EachIsHitModel", "leastMany", "I", false)
  | 19 => ("EachIsHitModel", "row", "[I", true)
  | 20 => ("EachIsHitModel", "nodes", "I", false)
  | 21 => ("EachIsHitModel", "deepest", "I", false)
  | 22 => ("EachIsHitModel", "barren", "I", false)
  | 23 => ("EachIsHitModel", "soughtNode", "I", false)
  | 24 => ("EachIsHitModel", "soughtPoint", "I", false)
  | 25 => ("EachIsHitModel", "soughtMany", "I", false)
  | 26 => ("EachIsHitModel", "soughtDepth", "I", false)
  | 27 => ("EachIsHitModel", "soughtHad", "I", false)
  | 28 => ("EachIsHitModel", "isCommon", "[Z", true)
  | 29 => ("EachIsHitModel", "worths", "[I", true)
  | 30 => ("EachIsHitModel", "sorts", "[I", true)
  | 31 => ("EachIsHitModel", "long0", "[I", true)
  | 32 => ("EachIsHitModel", "cells", "[J", true)
  | 33 => ("EachIsHitModel", "isKept", "Z", false)
  | 34 => ("EachIsHitModel", "keptPrice", "[I", true)
  | 35 => ("EachIsHitModel", "keptSizes", "[I", true)
  | 36 => ("EachIsHitModel", "keptSets", "[I", true)
  | 37 => ("EachIsHitModel", "keptTallies", "[I", true)
  | _ => ("EachIsHitModel", "keptRules", "I", false)
def tyX8 : Nat → FieldType := fun k => match k with
  | 0 => .array .int
  | 1 => .array .int
  | 2 => .array .int
  | 3 => .array .int
  | 4 => .int
  | 5 => .array .int
  | 6 => .array .int
  | 7 => .array .int
  | 8 => .array .int
  | 9 => .array .int
  | 10 => .int
  | 11 => .array .int
  | 12 => .array .int
  | 13 => .array .int
  | 14 => .array .boolean
  | 15 => .array .int
  | 16 => .int
  | 17 => .array .int
  | 18 => .int
  | 19 => .array .int
  | 20 => .int
  | 21 => .int
  | 22 => .int
  | 23 => .int
  | 24 => .int
  | 25 => .int
  | 26 => .int
  | 27 => .int
  | 28 => .array .boolean
  | 29 => .array .int
  | 30 => .array .int
  | 31 => .array .int
  | 32 => .array .long
  | 33 => .boolean
  | 34 => .array .int
  | 35 => .array .int
  | 36 => .array .int
  | 37 => .array .int
  | _ => .int
abbrev wsX80 : List Cond := u_ws RX8 TX8 39
theorem nmX8 : ∀ a, a < 39 → ∀ b, b < 39 → a ≠ b → (TX8 a).2.1 ≠ (TX8 b).2.1 := by decide +kernel
theorem tyX8_ok : ∀ k, k < 39 → parseFieldDescriptor (TX8 k).2.2.1 = some (tyX8 k) := by decide +kernel
abbrev cX8_init : ByteArray := prog_10_method_1_code
def yX8_init : MethodName := ⟨RX8, "<init>", "()V"⟩
abbrev cX8_in : ByteArray := prog_10_method_2_code
def yX8_in : MethodName := ⟨RX8, "in", "(JJJ)Z"⟩
abbrev cX8_isPoint : ByteArray := prog_10_method_3_code
def yX8_isPoint : MethodName := ⟨RX8, "isPoint", "(I)Z"⟩
abbrev cX8_isSet : ByteArray := prog_10_method_4_code
def yX8_isSet : MethodName := ⟨RX8, "isSet", "(I)Z"⟩
abbrev cX8_isFamily : ByteArray := prog_10_method_5_code
def yX8_isFamily : MethodName := ⟨RX8, "isFamily", "(I)Z"⟩
abbrev cX8_isRule : ByteArray := prog_10_method_6_code
def yX8_isRule : MethodName := ⟨RX8, "isRule", "(I)Z"⟩
abbrev cX8_has : ByteArray := prog_10_method_7_code
def yX8_has : MethodName := ⟨RX8, "has", "(II)Z"⟩
abbrev cX8_many : ByteArray := prog_10_method_8_code
def yX8_many : MethodName := ⟨RX8, "many", "(I)I"⟩
abbrev cX8_isPart : ByteArray := prog_10_method_9_code
def yX8_isPart : MethodName := ⟨RX8, "isPart", "(II)Z"⟩
abbrev cX8_setOf : ByteArray := prog_10_method_10_code
def yX8_setOf : MethodName := ⟨RX8, "setOf", "(II)I"⟩
abbrev cX8_remembers : ByteArray := prog_10_method_11_code
def yX8_remembers : MethodName := ⟨RX8, "remembers", "(III)V"⟩
abbrev cX8_price : ByteArray := prog_10_method_12_code
def yX8_price : MethodName := ⟨RX8, "price", "(II)I"⟩
abbrev cX8_priceOf : ByteArray := prog_10_method_13_code
def yX8_priceOf : MethodName := ⟨RX8, "priceOf", "(I)I"⟩
abbrev cX8_placeOf : ByteArray := prog_10_method_14_code
def yX8_placeOf : MethodName := ⟨RX8, "placeOf", "(II)I"⟩
abbrev cX8_tells : ByteArray := prog_10_method_15_code
def yX8_tells : MethodName := ⟨RX8, "tells", "(II)I"⟩
abbrev cX8_drops : ByteArray := prog_10_method_16_code
def yX8_drops : MethodName := ⟨RX8, "drops", "(II)V"⟩
abbrev cX8_takes : ByteArray := prog_10_method_17_code
def yX8_takes : MethodName := ⟨RX8, "takes", "(II)I"⟩
abbrev cX8_tallyOf : ByteArray := prog_10_method_18_code
def yX8_tallyOf : MethodName := ⟨RX8, "tallyOf", "(II)I"⟩
abbrev cX8_tell : ByteArray := prog_10_method_19_code
def yX8_tell : MethodName := ⟨RX8, "tell", "(II)I"⟩
abbrev cX8_take : ByteArray := prog_10_method_20_code
def yX8_take : MethodName := ⟨RX8, "take", "(II)I"⟩
abbrev cX8_tally : ByteArray := prog_10_method_21_code
def yX8_tally : MethodName := ⟨RX8, "tally", "(II)I"⟩
abbrev cX8_at : ByteArray := prog_10_method_22_code
def yX8_at : MethodName := ⟨RX8, "at", "(II)I"⟩
abbrev cX8_size : ByteArray := prog_10_method_23_code
def yX8_size : MethodName := ⟨RX8, "size", "(I)I"⟩
abbrev cX8_wipe : ByteArray := prog_10_method_24_code
def yX8_wipe : MethodName := ⟨RX8, "wipe", "(I)I"⟩
abbrev cX8_copy : ByteArray := prog_10_method_25_code
def yX8_copy : MethodName := ⟨RX8, "copy", "(II)I"⟩
abbrev cX8_undo : ByteArray := prog_10_method_26_code
def yX8_undo : MethodName := ⟨RX8, "undo", "()I"⟩
abbrev cX8_oftenIn : ByteArray := prog_10_method_27_code
def yX8_oftenIn : MethodName := ⟨RX8, "oftenIn", "(II)I"⟩
abbrev cX8_often : ByteArray := prog_10_method_28_code
def yX8_often : MethodName := ⟨RX8, "often", "(II)I"⟩
abbrev cX8_top : ByteArray := prog_10_method_29_code
def yX8_top : MethodName := ⟨RX8, "top", "(I)I"⟩
abbrev cX8_hasPart : ByteArray := prog_10_method_30_code
def yX8_hasPart : MethodName := ⟨RX8, "hasPart", "(II)Z"⟩
abbrev cX8_isSimple : ByteArray := prog_10_method_31_code
def yX8_isSimple : MethodName := ⟨RX8, "isSimple", "(I)I"⟩
abbrev cX8_lean : ByteArray := prog_10_method_32_code
def yX8_lean : MethodName := ⟨RX8, "lean", "(I)I"⟩
abbrev cX8_wants : ByteArray := prog_10_method_33_code
def yX8_wants : MethodName := ⟨RX8, "wants", "(I)V"⟩
abbrev cX8_hits : ByteArray := prog_10_method_34_code
def yX8_hits : MethodName := ⟨RX8, "hits", "(I)I"⟩
abbrev cX8_does : ByteArray := prog_10_method_35_code
def yX8_does : MethodName := ⟨RX8, "does", "(III)Z"⟩
abbrev cX8_isTest : ByteArray := prog_10_method_36_code
def yX8_isTest : MethodName := ⟨RX8, "isTest", "(I)Z"⟩
abbrev cX8_test : ByteArray := prog_10_method_37_code
def yX8_test : MethodName := ⟨RX8, "test", "(III)I"⟩
abbrev cX8_counted : ByteArray := prog_10_method_38_code
def yX8_counted : MethodName := ⟨RX8, "counted", "(IIII)I"⟩
abbrev cX8_findsLeast : ByteArray := prog_10_method_39_code
def yX8_findsLeast : MethodName := ⟨RX8, "findsLeast", "()V"⟩
abbrev cX8_findsDual : ByteArray := prog_10_method_40_code
def yX8_findsDual : MethodName := ⟨RX8, "findsDual", "(I)V"⟩
abbrev cX8_leastAt : ByteArray := prog_10_method_41_code
def yX8_leastAt : MethodName := ⟨RX8, "leastAt", "(I)I"⟩
abbrev cX8_dual : ByteArray := prog_10_method_42_code
def yX8_dual : MethodName := ⟨RX8, "dual", "(II)I"⟩
abbrev cX8_into : ByteArray := prog_10_method_43_code
def yX8_into : MethodName := ⟨RX8, "into", "(II)I"⟩
abbrev cX8_verdict : ByteArray := prog_10_method_44_code
def yX8_verdict : MethodName := ⟨RX8, "verdict", "(III)I"⟩
abbrev cX8_thins : ByteArray := prog_10_method_45_code
def yX8_thins : MethodName := ⟨RX8, "thins", "(II)I"⟩
abbrev cX8_topOf : ByteArray := prog_10_method_46_code
def yX8_topOf : MethodName := ⟨RX8, "topOf", "(II)I"⟩
abbrev cX8_grows : ByteArray := prog_10_method_47_code
def yX8_grows : MethodName := ⟨RX8, "grows", "(III)V"⟩
abbrev cX8_findsTree : ByteArray := prog_10_method_48_code
def yX8_findsTree : MethodName := ⟨RX8, "findsTree", "(II)V"⟩
abbrev cX8_tree : ByteArray := prog_10_method_49_code
def yX8_tree : MethodName := ⟨RX8, "tree", "(II)I"⟩
abbrev cX8_node : ByteArray := prog_10_method_50_code
def yX8_node : MethodName := ⟨RX8, "node", "(III)I"⟩
abbrev cX8_keys : ByteArray := prog_10_method_51_code
def yX8_keys : MethodName := ⟨RX8, "keys", "(II)I"⟩
abbrev cX8_supportOf : ByteArray := prog_10_method_52_code
def yX8_supportOf : MethodName := ⟨RX8, "supportOf", "(II)I"⟩
abbrev cX8_support : ByteArray := prog_10_method_53_code
def yX8_support : MethodName := ⟨RX8, "support", "(II)I"⟩
abbrev cX8_isBorder : ByteArray := prog_10_method_54_code
def yX8_isBorder : MethodName := ⟨RX8, "isBorder", "(II)Z"⟩
abbrev cX8_border : ByteArray := prog_10_method_55_code
def yX8_border : MethodName := ⟨RX8, "border", "(IIII)I"⟩
abbrev cX8_run : ByteArray := prog_10_method_56_code
def yX8_run : MethodName := ⟨RX8, "run", "(III)I"⟩
abbrev cX8_rest : ByteArray := prog_10_method_57_code
def yX8_rest : MethodName := ⟨RX8, "rest", "(II)I"⟩
abbrev cX8_canMake : ByteArray := prog_10_method_58_code
def yX8_canMake : MethodName := ⟨RX8, "canMake", "(III)Z"⟩
abbrev cX8_make : ByteArray := prog_10_method_59_code
def yX8_make : MethodName := ⟨RX8, "make", "(IIII)I"⟩
abbrev cX8_isOfA : ByteArray := prog_10_method_60_code
def yX8_isOfA : MethodName := ⟨RX8, "isOfA", "(I)Z"⟩
abbrev cX8_isC : ByteArray := prog_10_method_61_code
def yX8_isC : MethodName := ⟨RX8, "isC", "(II)Z"⟩
abbrev cX8_rule : ByteArray := prog_10_method_62_code
def yX8_rule : MethodName := ⟨RX8, "rule", "(IIII)I"⟩
abbrev cX8_first : ByteArray := prog_10_method_63_code
def yX8_first : MethodName := ⟨RX8, "first", "(II)I"⟩
abbrev cX8_metBy : ByteArray := prog_10_method_64_code
def yX8_metBy : MethodName := ⟨RX8, "metBy", "(II)I"⟩
abbrev cX8_worthOf : ByteArray := prog_10_method_65_code
def yX8_worthOf : MethodName := ⟨RX8, "worthOf", "(II)I"⟩
abbrev cX8_worth : ByteArray := prog_10_method_66_code
def yX8_worth : MethodName := ⟨RX8, "worth", "(II)I"⟩
abbrev cX8_best : ByteArray := prog_10_method_67_code
def yX8_best : MethodName := ⟨RX8, "best", "(III)I"⟩
abbrev cX8_ranked : ByteArray := prog_10_method_68_code
def yX8_ranked : MethodName := ⟨RX8, "ranked", "(III)I"⟩
abbrev cX8_sums : ByteArray := prog_10_method_69_code
def yX8_sums : MethodName := ⟨RX8, "sums", "(II)I"⟩
abbrev cX8_isSheet : ByteArray := prog_10_method_70_code
def yX8_isSheet : MethodName := ⟨RX8, "isSheet", "(I)Z"⟩
abbrev cX8_sheet : ByteArray := prog_10_method_71_code
def yX8_sheet : MethodName := ⟨RX8, "sheet", "(III)I"⟩
abbrev cX8_wrong : ByteArray := prog_10_method_72_code
def yX8_wrong : MethodName := ⟨RX8, "wrong", "(II)I"⟩
abbrev cX8_cell : ByteArray := prog_10_method_73_code
def yX8_cell : MethodName := ⟨RX8, "cell", "(IIJ)I"⟩
abbrev cX8_read : ByteArray := prog_10_method_74_code
def yX8_read : MethodName := ⟨RX8, "read", "(II)J"⟩
abbrev cX8_noLongs : ByteArray := prog_10_method_75_code
def yX8_noLongs : MethodName := ⟨RX8, "noLongs", "(I)I"⟩
abbrev cX8_packs : ByteArray := prog_10_method_76_code
def yX8_packs : MethodName := ⟨RX8, "packs", "(II)I"⟩
abbrev cX8_unpacks : ByteArray := prog_10_method_77_code
def yX8_unpacks : MethodName := ⟨RX8, "unpacks", "(III)I"⟩
abbrev cX8_freqs : ByteArray := prog_10_method_78_code
def yX8_freqs : MethodName := ⟨RX8, "freqs", "(II)I"⟩
abbrev cX8_allHeld : ByteArray := prog_10_method_79_code
def yX8_allHeld : MethodName := ⟨RX8, "allHeld", "()I"⟩
abbrev cX8_copies : ByteArray := prog_10_method_80_code
def yX8_copies : MethodName := ⟨RX8, "copies", "([I[I)V"⟩
abbrev cX8_image : ByteArray := prog_10_method_81_code
def yX8_image : MethodName := ⟨RX8, "image", "()I"⟩
abbrev cX8_back : ByteArray := prog_10_method_82_code
def yX8_back : MethodName := ⟨RX8, "back", "()I"⟩
abbrev cX8_count : ByteArray := prog_10_method_83_code
def yX8_count : MethodName := ⟨RX8, "count", "(I)I"⟩
def RJ6 : String := "java/lang/Integer"
def TJ6 : u_T := fun k => match k with
  | _ => ("", "", "", false)
def tyJ6 : Nat → FieldType := fun k => match k with
  | _ => .int
abbrev wsJ60 : List Cond := u_ws RJ6 TJ6 0
theorem nmJ6 : ∀ a, a < 0 → ∀ b, b < 0 → a ≠ b → (TJ6 a).2.1 ≠ (TJ6 b).2.1 := by decide +kernel
theorem tyJ6_ok : ∀ k, k < 0 → parseFieldDescriptor (TJ6 k).2.2.1 = some (tyJ6 k) := by decide +kernel
abbrev cJ6_bitCount_0f7a4 : ByteArray := prog_11_method_49_code
def yJ6_bitCount_0f7a4 : MethodName := ⟨RJ6, "bitCount", "(I)I"⟩
def RJ13 : String := "java/lang/Long"
def TJ13 : u_T := fun k => match k with
  | _ => ("", "", "", false)
def tyJ13 : Nat → FieldType := fun k => match k with
  | _ => .int
abbrev wsJ130 : List Cond := u_ws RJ13 TJ13 0
theorem nmJ13 : ∀ a, a < 0 → ∀ b, b < 0 → a ≠ b → (TJ13 a).2.1 ≠ (TJ13 b).2.1 := by decide +kernel
theorem tyJ13_ok : ∀ k, k < 0 → parseFieldDescriptor (TJ13 k).2.2.1 = some (tyJ13 k) := by decide +kernel
abbrev cJ13_bitCount_95d88 : ByteArray := prog_12_method_50_code
def yJ13_bitCount_95d88 : MethodName := ⟨RJ13, "bitCount", "(J)I"⟩
def RJ9 : String := "java/lang/Math"
def TJ9 : u_T := fun k => match k with
  | _ => ("", "", "", false)
def tyJ9 : Nat → FieldType := fun k => match k with
  | _ => .int
abbrev wsJ90 : List Cond := u_ws RJ9 TJ9 0
theorem nmJ9 : ∀ a, a < 0 → ∀ b, b < 0 → a ≠ b → (TJ9 a).2.1 ≠ (TJ9 b).2.1 := by decide +kernel
theorem tyJ9_ok : ∀ k, k < 0 → parseFieldDescriptor (TJ9 k).2.2.1 = some (tyJ9 k) := by decide +kernel
abbrev cJ9_max_7cf53 : ByteArray := prog_13_method_65_code
def yJ9_max_7cf53 : MethodName := ⟨RJ9, "max", "(II)I"⟩
abbrev cJ9_min_7cf53 : ByteArray := prog_13_method_69_code
def yJ9_min_7cf53 : MethodName := ⟨RJ9, "min", "(II)I"⟩
def RJ10 : String := "java/lang/System"
def TJ10 : u_T := fun k => match k with
  | _ => ("", "", "", false)
def tyJ10 : Nat → FieldType := fun k => match k with
  | _ => .int
abbrev wsJ100 : List Cond := u_ws RJ10 TJ10 0
theorem nmJ10 : ∀ a, a < 0 → ∀ b, b < 0 → a ≠ b → (TJ10 a).2.1 ≠ (TJ10 b).2.1 := by decide +kernel
theorem tyJ10_ok : ∀ k, k < 0 → parseFieldDescriptor (TJ10 k).2.2.1 = some (tyJ10 k) := by decide +kernel
def RJ7 : String := "java/util/Arrays"
def TJ7 : u_T := fun k => match k with
  | _ => ("", "", "", false)
def tyJ7 : Nat → FieldType := fun k => match k with
  | _ => .int
abbrev wsJ70 : List Cond := u_ws RJ7 TJ7 0
theorem nmJ7 : ∀ a, a < 0 → ∀ b, b < 0 → a ≠ b → (TJ7 a).2.1 ≠ (TJ7 b).2.1 := by decide +kernel
theorem tyJ7_ok : ∀ k, k < 0 → parseFieldDescriptor (TJ7 k).2.2.1 = some (tyJ7 k) := by decide +kernel
abbrev cJ7_fill_d0a16 : ByteArray := prog_15_method_101_code
def yJ7_fill_d0a16 : MethodName := ⟨RJ7, "fill", "([JJ)V"⟩
abbrev cJ7_fill_53178 : ByteArray := prog_15_method_103_code
def yJ7_fill_53178 : MethodName := ⟨RJ7, "fill", "([II)V"⟩
def RL : String := "EachIsHitLaw"
abbrev cL_law : ByteArray := code
def yL_law : MethodName := ⟨RL, "law", "([I)Z"⟩
end
section
/-! the words of the tables that are good at every later state -/
def z_TB : List Cond := lw_tbl.filter goodWord
theorem z_tb {w : Cond} (h : w ∈ lw_tbl) (g : goodWord w = true) : w ∈ z_TB := List.mem_filter.mpr ⟨h, g⟩
theorem z_tbg : ∀ w ∈ z_TB, w ∈ lw_tbl ∧ goodWord w = true := fun _ h => List.mem_filter.mp h
theorem z_l1 {i : Nat} {w : Cond} (h : tables_1_1[i]? = some w) : w ∈ lw_tbl := List.mem_append_right _ (List.mem_append_left _ (List.mem_of_getElem? h))
theorem z_t1 {i : Nat} {w : Cond} (h : tables_1_1[i]? = some w) (g : goodWord w = true) : w ∈ z_TB := z_tb (z_l1 h) g
theorem z_l2 {i : Nat} {w : Cond} (h : tables_1_2[i]? = some w) : w ∈ lw_tbl := List.mem_append_right _ (List.mem_append_right _ (List.mem_append_left _ (List.mem_of_getElem? h)))
theorem z_t2 {i : Nat} {w : Cond} (h : tables_1_2[i]? = some w) (g : goodWord w = true) : w ∈ z_TB := z_tb (z_l2 h) g
theorem z_l3 {i : Nat} {w : Cond} (h : tables_1_3[i]? = some w) : w ∈ lw_tbl := List.mem_append_right _ (List.mem_append_right _ (List.mem_append_right _ (List.mem_append_left _ (List.mem_of_getElem? h))))
theorem z_t3 {i : Nat} {w : Cond} (h : tables_1_3[i]? = some w) (g : goodWord w = true) : w ∈ z_TB := z_tb (z_l3 h) g
theorem z_l4 {i : Nat} {w : Cond} (h : tables_1_4[i]? = some w) : w ∈ lw_tbl := List.mem_append_right _ (List.mem_append_right _ (List.mem_append_right _ (List.mem_append_right _ (List.mem_append_left _ (List.mem_of_getElem? h)))))
theorem z_t4 {i : Nat} {w : Cond} (h : tables_1_4[i]? = some w) (g : goodWord w = true) : w ∈ z_TB := z_tb (z_l4 h) g
theorem z_l5 {i : Nat} {w : Cond} (h : tables_1_5[i]? = some w) : w ∈ lw_tbl := List.mem_append_right _ (List.mem_append_right _ (List.mem_append_right _ (List.mem_append_right _ (List.mem_append_right _ (List.mem_of_getElem? h)))))
theorem z_t5 {i : Nat} {w : Cond} (h : tables_1_5[i]? = some w) (g : goodWord w = true) : w ∈ z_TB := z_tb (z_l5 h) g
theorem z_ts {i : Nat} {w : Cond} (h : (k2_sels lw_privs)[i]? = some w) (g : goodWord w = true) : w ∈ z_TB := z_tb (List.mem_append_left _ (List.mem_of_getElem? h)) g
theorem tw_0 : Cond.initialized RL ∈ z_TB := z_t1 (i := 0) (by decide +kernel) rfl
theorem tw_1 : Cond.initialized RX7 ∈ z_TB := z_t1 (i := 1) (by decide +kernel) rfl
theorem tw_2 : Cond.initialized RX4 ∈ z_TB := z_t1 (i := 2) (by decide +kernel) rfl
theorem tw_3 : Cond.initialized RJ7 ∈ z_TB := z_t1 (i := 3) (by decide +kernel) rfl
theorem tw_4 : Cond.initialized RX1 ∈ z_TB := z_t1 (i := 4) (by decide +kernel) rfl
theorem tw_5 : Cond.initialized RX2 ∈ z_TB := z_t1 (i := 5) (by decide +kernel) rfl
theorem tw_6 : Cond.initialized RX0 ∈ z_TB := z_t1 (i := 6) (by decide +kernel) rfl
theorem tw_7 : Cond.initialized RX3 ∈ z_TB := z_t1 (i := 7) (by decide +kernel) rfl
theorem tw_8 : Cond.initialized RX6 ∈ z_TB := z_t1 (i := 8) (by decide +kernel) rfl
theorem tw_9 : Cond.initialized RX5 ∈ z_TB := z_t1 (i := 9) (by decide +kernel) rfl
theorem tw_10 : Cond.initialized RX8 ∈ z_TB := z_t1 (i := 10) (by decide +kernel) rfl
theorem tw_11 : Cond.initialized RJ10 ∈ z_TB := z_t1 (i := 11) (by decide +kernel) rfl
theorem tw_12 : Cond.initialized RJ9 ∈ z_TB := z_t1 (i := 12) (by decide +kernel) rfl
theorem tw_13 : Cond.initialized RJ6 ∈ z_TB := z_t1 (i := 13) (by decide +kernel) rfl
theorem tw_14 : Cond.initialized RJ13 ∈ z_TB := z_t1 (i := 14) (by decide +kernel) rfl
theorem tw_15 : Cond.classLink RL 7 RX7 ∈ z_TB := z_t1 (i := 15) (by decide +kernel) rfl
theorem tw_16 : Cond.instantiable RX7 11 ∈ z_TB := z_t1 (i := 16) (by decide +kernel) rfl
theorem tw_17 : Cond.methodLink RL 9 yX7_init ∈ z_TB := z_t1 (i := 17) (by decide +kernel) rfl
theorem tw_18 : Cond.instanceMethod yX7_init ∈ z_TB := z_t1 (i := 18) (by decide +kernel) rfl
theorem tw_19 : Cond.code yX7_init cX7_init 2 none ∈ z_TB := z_t1 (i := 19) (by decide +kernel) rfl
theorem tw_20 : Cond.methodLink RX7 1 objectInit ∈ z_TB := z_t1 (i := 20) (by decide +kernel) rfl
theorem tw_21 : Cond.instanceMethod objectInit ∈ z_TB := z_t1 (i := 21) (by decide +kernel) rfl
theorem tw_22 : Cond.code objectInit object_method_1_code 1 none ∈ z_TB := z_t1 (i := 22) (by decide +kernel) rfl
theorem tw_23 : Cond.classLink RX7 7 RX4 ∈ z_TB := z_t1 (i := 23) (by decide +kernel) rfl
theorem tw_24 : Cond.instantiable RX4 3 ∈ z_TB := z_t1 (i := 24) (by decide +kernel) rfl
theorem tw_25 : Cond.methodLink RX7 9 yX4_init ∈ z_TB := z_t1 (i := 25) (by decide +kernel) rfl
theorem tw_26 : Cond.instanceMethod yX4_init ∈ z_TB := z_t1 (i := 26) (by decide +kernel) rfl
theorem tw_27 : Cond.code yX4_init cX4_init 2 none ∈ z_TB := z_t1 (i := 27) (by decide +kernel) rfl
theorem tw_28 : Cond.methodLink RX4 3 objectInit ∈ z_TB := z_t1 (i := 28) (by decide +kernel) rfl
theorem tw_29 : Cond.methodLink RX4 15 yJ7_fill_53178 ∈ z_TB := z_t1 (i := 29) (by decide +kernel) rfl
theorem tw_30 : Cond.static yJ7_fill_53178 ∈ z_TB := z_t1 (i := 30) (by decide +kernel) rfl
theorem tw_31 : Cond.code yJ7_fill_53178 cJ7_fill_53178 4 none ∈ z_TB := z_t1 (i := 31) (by decide +kernel) rfl
theorem tw_32 : Cond.classLink RX4 21 RX1 ∈ z_TB := z_t1 (i := 32) (by decide +kernel) rfl
theorem tn_33 : Cond.arrayOver (.object RX1) ∈ lw_tbl := z_l1 (i := 33) (by decide +kernel)
theorem tw_34 : Cond.instantiable RX1 3 ∈ z_TB := z_t1 (i := 34) (by decide +kernel) rfl
theorem tw_35 : Cond.methodLink RX4 27 yX1_init ∈ z_TB := z_t1 (i := 35) (by decide +kernel) rfl
theorem tw_36 : Cond.instanceMethod yX1_init ∈ z_TB := z_t1 (i := 36) (by decide +kernel) rfl
theorem tw_37 : Cond.code yX1_init cX1_init 1 none ∈ z_TB := z_t1 (i := 37) (by decide +kernel) rfl
theorem tw_38 : Cond.methodLink RX1 3 objectInit ∈ z_TB := z_t1 (i := 38) (by decide +kernel) rfl
theorem tw_39 : Cond.fieldLink RX1 9 RX1 "sets" "[I" ∈ z_TB := z_t1 (i := 39) (by decide +kernel) rfl
theorem tw_40 : Cond.fieldLink RX6 42 RX1 "sets" "[I" ∈ z_TB := z_t1 (i := 40) (by decide +kernel) rfl
theorem tw_41 : Cond.fieldLink RX5 36 RX1 "sets" "[I" ∈ z_TB := z_t1 (i := 41) (by decide +kernel) rfl
theorem tw_42 : Cond.fieldLink RX7 109 RX1 "sets" "[I" ∈ z_TB := z_t1 (i := 42) (by decide +kernel) rfl
theorem tw_43 : Cond.fieldLink RX1 15 RX1 "tallies" "[I" ∈ z_TB := z_t1 (i := 43) (by decide +kernel) rfl
theorem tw_44 : Cond.fieldLink RX5 72 RX1 "tallies" "[I" ∈ z_TB := z_t1 (i := 44) (by decide +kernel) rfl
theorem tw_45 : Cond.fieldLink RX7 148 RX1 "tallies" "[I" ∈ z_TB := z_t1 (i := 45) (by decide +kernel) rfl
theorem tw_46 : Cond.fieldLink RX1 18 RX1 "held" "I" ∈ z_TB := z_t1 (i := 46) (by decide +kernel) rfl
theorem tw_47 : Cond.fieldLink RX6 33 RX1 "held" "I" ∈ z_TB := z_t1 (i := 47) (by decide +kernel) rfl
theorem tw_48 : Cond.fieldLink RX4 42 RX1 "held" "I" ∈ z_TB := z_t1 (i := 48) (by decide +kernel) rfl
theorem tw_49 : Cond.fieldLink RX5 30 RX1 "held" "I" ∈ z_TB := z_t1 (i := 49) (by decide +kernel) rfl
theorem tw_50 : Cond.fieldLink RX7 105 RX1 "held" "I" ∈ z_TB := z_t1 (i := 50) (by decide +kernel) rfl
theorem tw_58 : Cond.arrayClass .int ∈ z_TB := z_t1 (i := 58) (by decide +kernel) rfl
theorem tw_59 : Cond.fieldLink RX4 9 RX4 "prices" "[I" ∈ z_TB := z_t1 (i := 59) (by decide +kernel) rfl
theorem tw_60 : Cond.fieldLink RX7 78 RX4 "prices" "[I" ∈ z_TB := z_t1 (i := 60) (by decide +kernel) rfl
theorem tw_61 : Cond.fieldLink RX4 23 RX4 "families" "[LEachIsHit$Family;" ∈ z_TB := z_t1 (i := 61) (by decide +kernel) rfl
theorem tw_62 : Cond.fieldLink RX7 91 RX4 "families" "[LEachIsHit$Family;" ∈ z_TB := z_t1 (i := 62) (by decide +kernel) rfl
theorem tw_63 : Cond.fieldLink RX4 28 RX4 "rules" "I" ∈ z_TB := z_t1 (i := 63) (by decide +kernel) rfl
theorem tw_64 : Cond.fieldLink RX7 255 RX4 "rules" "I" ∈ z_TB := z_t1 (i := 64) (by decide +kernel) rfl
theorem tw_72 : Cond.classLink RX7 23 RX2 ∈ z_TB := z_t1 (i := 72) (by decide +kernel) rfl
theorem tn_73 : Cond.arrayOver (.object RX2) ∈ lw_tbl := z_l1 (i := 73) (by decide +kernel)
theorem tw_74 : Cond.instantiable RX2 7 ∈ z_TB := z_t1 (i := 74) (by decide +kernel) rfl
theorem tw_75 : Cond.methodLink RX7 29 yX2_init ∈ z_TB := z_t1 (i := 75) (by decide +kernel) rfl
theorem tw_76 : Cond.instanceMethod yX2_init ∈ z_TB := z_t1 (i := 76) (by decide +kernel) rfl
theorem tw_77 : Cond.code yX2_init cX2_init 2 none ∈ z_TB := z_t1 (i := 77) (by decide +kernel) rfl
theorem tw_78 : Cond.methodLink RX2 3 objectInit ∈ z_TB := z_t1 (i := 78) (by decide +kernel) rfl
theorem tw_79 : Cond.fieldLink RX2 9 RX2 "how" "I" ∈ z_TB := z_t1 (i := 79) (by decide +kernel) rfl
theorem tw_80 : Cond.fieldLink RX7 359 RX2 "how" "I" ∈ z_TB := z_t1 (i := 80) (by decide +kernel) rfl
theorem tw_81 : Cond.fieldLink RX2 22 RX2 "a" "I" ∈ z_TB := z_t1 (i := 81) (by decide +kernel) rfl
theorem tw_82 : Cond.fieldLink RX7 362 RX2 "a" "I" ∈ z_TB := z_t1 (i := 82) (by decide +kernel) rfl
theorem tw_83 : Cond.fieldLink RX2 25 RX2 "b" "I" ∈ z_TB := z_t1 (i := 83) (by decide +kernel) rfl
theorem tw_84 : Cond.fieldLink RX7 365 RX2 "b" "I" ∈ z_TB := z_t1 (i := 84) (by decide +kernel) rfl
theorem tw_85 : Cond.fieldLink RX2 28 RX2 "c" "I" ∈ z_TB := z_t1 (i := 85) (by decide +kernel) rfl
theorem tw_86 : Cond.fieldLink RX7 373 RX2 "c" "I" ∈ z_TB := z_t1 (i := 86) (by decide +kernel) rfl
theorem tw_87 : Cond.fieldLink RX2 15 RX2 "prices" "[I" ∈ z_TB := z_t1 (i := 87) (by decide +kernel) rfl
theorem tw_88 : Cond.fieldLink RX7 386 RX2 "prices" "[I" ∈ z_TB := z_t1 (i := 88) (by decide +kernel) rfl
theorem tw_89 : Cond.fieldLink RX2 19 RX2 "lastSet" "I" ∈ z_TB := z_t1 (i := 89) (by decide +kernel) rfl
theorem tw_90 : Cond.fieldLink RX7 346 RX2 "lastSet" "I" ∈ z_TB := z_t1 (i := 90) (by decide +kernel) rfl
theorem tw_91 : Cond.fieldLink RX7 356 RX2 "lastAnswer" "I" ∈ z_TB := z_t1 (i := 91) (by decide +kernel) rfl
theorem tw_107 : Cond.classLink RX7 32 RX0 ∈ z_TB := z_t1 (i := 107) (by decide +kernel) rfl
theorem tw_108 : Cond.instantiable RX0 4 ∈ z_TB := z_t1 (i := 108) (by decide +kernel) rfl
theorem tw_109 : Cond.methodLink RX7 34 yX0_init ∈ z_TB := z_t1 (i := 109) (by decide +kernel) rfl
theorem tw_110 : Cond.instanceMethod yX0_init ∈ z_TB := z_t1 (i := 110) (by decide +kernel) rfl
theorem tw_111 : Cond.code yX0_init cX0_init 1 none ∈ z_TB := z_t1 (i := 111) (by decide +kernel) rfl
theorem tw_112 : Cond.methodLink RX0 3 objectInit ∈ z_TB := z_t1 (i := 112) (by decide +kernel) rfl
theorem tw_113 : Cond.fieldLink RX0 9 RX0 "kinds" "[I" ∈ z_TB := z_t1 (i := 113) (by decide +kernel) rfl
theorem tw_114 : Cond.fieldLink RX7 135 RX0 "kinds" "[I" ∈ z_TB := z_t1 (i := 114) (by decide +kernel) rfl
theorem tw_115 : Cond.fieldLink RX0 15 RX0 "wheres" "[I" ∈ z_TB := z_t1 (i := 115) (by decide +kernel) rfl
theorem tw_116 : Cond.fieldLink RX7 129 RX0 "wheres" "[I" ∈ z_TB := z_t1 (i := 116) (by decide +kernel) rfl
theorem tw_117 : Cond.fieldLink RX0 18 RX0 "whats" "[I" ∈ z_TB := z_t1 (i := 117) (by decide +kernel) rfl
theorem tw_118 : Cond.fieldLink RX7 132 RX0 "whats" "[I" ∈ z_TB := z_t1 (i := 118) (by decide +kernel) rfl
theorem tw_119 : Cond.fieldLink RX0 21 RX0 "known" "I" ∈ z_TB := z_t1 (i := 119) (by decide +kernel) rfl
theorem tw_120 : Cond.fieldLink RX7 122 RX0 "known" "I" ∈ z_TB := z_t1 (i := 120) (by decide +kernel) rfl
theorem tw_130 : Cond.classLink RX7 39 RX3 ∈ z_TB := z_t1 (i := 130) (by decide +kernel) rfl
theorem tn_131 : Cond.arrayOver (.object RX3) ∈ lw_tbl := z_l1 (i := 131) (by decide +kernel)
theorem tw_132 : Cond.instantiable RX3 3 ∈ z_TB := z_t1 (i := 132) (by decide +kernel) rfl
theorem tw_133 : Cond.methodLink RX7 45 yX3_init ∈ z_TB := z_t1 (i := 133) (by decide +kernel) rfl
theorem tw_134 : Cond.instanceMethod yX3_init ∈ z_TB := z_t1 (i := 134) (by decide +kernel) rfl
theorem tw_135 : Cond.code yX3_init cX3_init 1 none ∈ z_TB := z_t1 (i := 135) (by decide +kernel) rfl
theorem tw_136 : Cond.methodLink RX3 3 objectInit ∈ z_TB := z_t1 (i := 136) (by decide +kernel) rfl
theorem tw_137 : Cond.fieldLink RX3 9 RX3 "row" "[J" ∈ z_TB := z_t1 (i := 137) (by decide +kernel) rfl
theorem tw_138 : Cond.fieldLink RX7 291 RX3 "row" "[J" ∈ z_TB := z_t1 (i := 138) (by decide +kernel) rfl
theorem tw_139 : Cond.fieldLink RX3 15 RX3 "sort" "I" ∈ z_TB := z_t1 (i := 139) (by decide +kernel) rfl
theorem tw_140 : Cond.fieldLink RX7 275 RX3 "sort" "I" ∈ z_TB := z_t1 (i := 140) (by decide +kernel) rfl
theorem tw_141 : Cond.fieldLink RX3 19 RX3 "places" "I" ∈ z_TB := z_t1 (i := 141) (by decide +kernel) rfl
theorem tw_142 : Cond.fieldLink RX7 286 RX3 "places" "I" ∈ z_TB := z_t1 (i := 142) (by decide +kernel) rfl
theorem tw_150 : Cond.arrayClass .long ∈ z_TB := z_t1 (i := 150) (by decide +kernel) rfl
theorem tw_151 : Cond.classLink RX7 46 RX6 ∈ z_TB := z_t1 (i := 151) (by decide +kernel) rfl
theorem tw_152 : Cond.instantiable RX6 10 ∈ z_TB := z_t1 (i := 152) (by decide +kernel) rfl
theorem tw_153 : Cond.methodLink RX7 48 yX6_init ∈ z_TB := z_t1 (i := 153) (by decide +kernel) rfl
theorem tw_154 : Cond.instanceMethod yX6_init ∈ z_TB := z_t1 (i := 154) (by decide +kernel) rfl
theorem tw_155 : Cond.code yX6_init cX6_init 1 none ∈ z_TB := z_t1 (i := 155) (by decide +kernel) rfl
theorem tw_156 : Cond.methodLink RX6 3 objectInit ∈ z_TB := z_t1 (i := 156) (by decide +kernel) rfl
theorem tw_157 : Cond.classLink RX6 9 "[[I" ∈ z_TB := z_t1 (i := 157) (by decide +kernel) rfl
theorem tn_158 : Cond.arrayOver (.array .int) ∈ lw_tbl := z_l1 (i := 158) (by decide +kernel)
theorem tw_159 : Cond.fieldLink RX6 11 RX6 "rows" "[[I" ∈ z_TB := z_t1 (i := 159) (by decide +kernel) rfl
theorem tw_160 : Cond.fieldLink RX6 16 RX6 "wanted" "I" ∈ z_TB := z_t1 (i := 160) (by decide +kernel) rfl
theorem tw_161 : Cond.fieldLink RX6 20 RX6 "nodes" "I" ∈ z_TB := z_t1 (i := 161) (by decide +kernel) rfl
theorem tw_162 : Cond.fieldLink RX7 196 RX6 "nodes" "I" ∈ z_TB := z_t1 (i := 162) (by decide +kernel) rfl
theorem tw_163 : Cond.fieldLink RX6 23 RX6 "deepest" "I" ∈ z_TB := z_t1 (i := 163) (by decide +kernel) rfl
theorem tw_164 : Cond.fieldLink RX7 199 RX6 "deepest" "I" ∈ z_TB := z_t1 (i := 164) (by decide +kernel) rfl
theorem tw_165 : Cond.fieldLink RX6 26 RX6 "bare" "I" ∈ z_TB := z_t1 (i := 165) (by decide +kernel) rfl
theorem tw_166 : Cond.fieldLink RX7 202 RX6 "bare" "I" ∈ z_TB := z_t1 (i := 166) (by decide +kernel) rfl
theorem tw_167 : Cond.fieldLink RX6 29 RX6 "isFound" "Z" ∈ z_TB := z_t1 (i := 167) (by decide +kernel) rfl
theorem tw_168 : Cond.fieldLink RX7 205 RX6 "isFound" "Z" ∈ z_TB := z_t1 (i := 168) (by decide +kernel) rfl
theorem tw_169 : Cond.fieldLink RX6 54 RX6 "point" "I" ∈ z_TB := z_t1 (i := 169) (by decide +kernel) rfl
theorem tw_170 : Cond.fieldLink RX7 208 RX6 "point" "I" ∈ z_TB := z_t1 (i := 170) (by decide +kernel) rfl
theorem tw_171 : Cond.fieldLink RX6 57 RX6 "sets" "I" ∈ z_TB := z_t1 (i := 171) (by decide +kernel) rfl
theorem tw_172 : Cond.fieldLink RX7 211 RX6 "sets" "I" ∈ z_TB := z_t1 (i := 172) (by decide +kernel) rfl
theorem tw_173 : Cond.fieldLink RX6 59 RX6 "depth" "I" ∈ z_TB := z_t1 (i := 173) (by decide +kernel) rfl
theorem tw_174 : Cond.fieldLink RX7 213 RX6 "depth" "I" ∈ z_TB := z_t1 (i := 174) (by decide +kernel) rfl
theorem tw_175 : Cond.fieldLink RX6 62 RX6 "had" "I" ∈ z_TB := z_t1 (i := 175) (by decide +kernel) rfl
theorem tw_176 : Cond.fieldLink RX7 216 RX6 "had" "I" ∈ z_TB := z_t1 (i := 176) (by decide +kernel) rfl
theorem tw_198 : Cond.classLink RX7 53 RX1 ∈ z_TB := z_t1 (i := 198) (by decide +kernel) rfl
theorem tw_199 : Cond.methodLink RX7 55 yX1_init ∈ z_TB := z_t1 (i := 199) (by decide +kernel) rfl
theorem tw_200 : Cond.classLink RX7 60 RX5 ∈ z_TB := z_t1 (i := 200) (by decide +kernel) rfl
theorem tw_201 : Cond.instantiable RX5 2 ∈ z_TB := z_t1 (i := 201) (by decide +kernel) rfl
theorem tw_202 : Cond.methodLink RX7 62 yX5_init ∈ z_TB := z_t1 (i := 202) (by decide +kernel) rfl
theorem tw_203 : Cond.instanceMethod yX5_init ∈ z_TB := z_t1 (i := 203) (by decide +kernel) rfl
theorem tw_204 : Cond.code yX5_init cX5_init 1 none ∈ z_TB := z_t1 (i := 204) (by decide +kernel) rfl
theorem tw_205 : Cond.methodLink RX5 3 objectInit ∈ z_TB := z_t1 (i := 205) (by decide +kernel) rfl
theorem tw_206 : Cond.fieldLink RX5 11 RX5 "words" "[J" ∈ z_TB := z_t1 (i := 206) (by decide +kernel) rfl
theorem tw_207 : Cond.fieldLink RX5 15 RX5 "supports" "[I" ∈ z_TB := z_t1 (i := 207) (by decide +kernel) rfl
theorem tw_213 : Cond.fieldLink RX7 10 RX7 "now" "LEachIsHit$Stock;" ∈ z_TB := z_t1 (i := 213) (by decide +kernel) rfl
theorem tw_214 : Cond.fieldLink RX7 16 RX7 "kept" "LEachIsHit$Stock;" ∈ z_TB := z_t1 (i := 214) (by decide +kernel) rfl
theorem tw_215 : Cond.fieldLink RX7 19 RX7 "isKept" "Z" ∈ z_TB := z_t1 (i := 215) (by decide +kernel) rfl
theorem tw_216 : Cond.fieldLink RX7 25 RX7 "rules" "[LEachIsHit$Rule;" ∈ z_TB := z_t1 (i := 216) (by decide +kernel) rfl
theorem tw_217 : Cond.fieldLink RX7 35 RX7 "acts" "LEachIsHit$Acts;" ∈ z_TB := z_t1 (i := 217) (by decide +kernel) rfl
theorem tw_218 : Cond.fieldLink RX7 41 RX7 "sheets" "[LEachIsHit$Sheet;" ∈ z_TB := z_t1 (i := 218) (by decide +kernel) rfl
theorem tw_219 : Cond.fieldLink RX7 49 RX7 "walk" "LEachIsHit$Walk;" ∈ z_TB := z_t1 (i := 219) (by decide +kernel) rfl
theorem tw_220 : Cond.fieldLink RX7 56 RX7 "spare" "LEachIsHit$Family;" ∈ z_TB := z_t1 (i := 220) (by decide +kernel) rfl
theorem tw_221 : Cond.fieldLink RX7 63 RX7 "hits" "LEachIsHit$Table;" ∈ z_TB := z_t1 (i := 221) (by decide +kernel) rfl
theorem tw_222 : Cond.fieldLink RX7 67 RX7 "least" "LEachIsHit$Table;" ∈ z_TB := z_t1 (i := 222) (by decide +kernel) rfl
theorem tw_223 : Cond.fieldLink RX7 70 RX7 "worths" "[I" ∈ z_TB := z_t1 (i := 223) (by decide +kernel) rfl
theorem tw_247 : Cond.methodLink RL 13 yX7_price ∈ z_TB := z_t2 (i := 7) (by decide +kernel) rfl
theorem tw_248 : Cond.instanceMethod yX7_price ∈ z_TB := z_t2 (i := 8) (by decide +kernel) rfl
theorem tw_249 : Cond.selects RX7 yX7_price yX7_price ∈ z_TB := z_t2 (i := 9) (by decide +kernel) rfl
theorem tw_250 : Cond.code yX7_price cX7_price 4 (some .int) ∈ z_TB := z_t2 (i := 10) (by decide +kernel) rfl
theorem tw_251 : Cond.methodLink RX7 74 yX7_isNoPoint ∈ z_TB := z_t2 (i := 11) (by decide +kernel) rfl
theorem tw_252 : Cond.static yX7_isNoPoint ∈ z_TB := z_t2 (i := 12) (by decide +kernel) rfl
theorem tw_253 : Cond.code yX7_isNoPoint cX7_isNoPoint 1 (some .boolean) ∈ z_TB := z_t2 (i := 13) (by decide +kernel) rfl
theorem tw_254 : Cond.methodLink RX7 81 yX0_remember ∈ z_TB := z_t2 (i := 14) (by decide +kernel) rfl
theorem tw_255 : Cond.instanceMethod yX0_remember ∈ z_TB := z_t2 (i := 15) (by decide +kernel) rfl
theorem tw_256 : Cond.selects RX0 yX0_remember yX0_remember ∈ z_TB := z_t2 (i := 16) (by decide +kernel) rfl
theorem tw_257 : Cond.code yX0_remember cX0_remember 4 none ∈ z_TB := z_t2 (i := 17) (by decide +kernel) rfl
theorem tw_258 : Cond.methodLink RX0 25 yX0_forgetOldest ∈ z_TB := z_t2 (i := 18) (by decide +kernel) rfl
theorem tw_259 : Cond.instanceMethod yX0_forgetOldest ∈ z_TB := z_t2 (i := 19) (by decide +kernel) rfl
theorem tw_260 : Cond.selects RX0 yX0_forgetOldest yX0_forgetOldest ∈ z_TB := z_t2 (i := 20) (by decide +kernel) rfl
theorem tw_261 : Cond.code yX0_forgetOldest cX0_forgetOldest 1 none ∈ z_TB := z_t2 (i := 21) (by decide +kernel) rfl
theorem tw_262 : Cond.methodLink RX0 28 arraycopyName ∈ z_TB := z_t2 (i := 22) (by decide +kernel) rfl
theorem tw_263 : Cond.static arraycopyName ∈ z_TB := z_t2 (i := 23) (by decide +kernel) rfl
theorem tw_264 : Cond.native arraycopyName ∈ z_TB := z_t2 (i := 24) (by decide +kernel) rfl
theorem tw_265 : Cond.methodLink RL 18 yX7_priceOf ∈ z_TB := z_t2 (i := 25) (by decide +kernel) rfl
theorem tw_266 : Cond.instanceMethod yX7_priceOf ∈ z_TB := z_t2 (i := 26) (by decide +kernel) rfl
theorem tw_267 : Cond.selects RX7 yX7_priceOf yX7_priceOf ∈ z_TB := z_t2 (i := 27) (by decide +kernel) rfl
theorem tw_268 : Cond.code yX7_priceOf cX7_priceOf 2 (some .int) ∈ z_TB := z_t2 (i := 28) (by decide +kernel) rfl
theorem tw_269 : Cond.methodLink RL 23 yX7_tell ∈ z_TB := z_t2 (i := 29) (by decide +kernel) rfl
theorem tw_270 : Cond.instanceMethod yX7_tell ∈ z_TB := z_t2 (i := 30) (by decide +kernel) rfl
theorem tw_271 : Cond.selects RX7 yX7_tell yX7_tell ∈ z_TB := z_t2 (i := 31) (by decide +kernel) rfl
theorem tw_272 : Cond.code yX7_tell cX7_tell 5 (some .int) ∈ z_TB := z_t2 (i := 32) (by decide +kernel) rfl
theorem tw_273 : Cond.methodLink RX7 85 yX7_isNoFamily ∈ z_TB := z_t2 (i := 33) (by decide +kernel) rfl
theorem tw_274 : Cond.static yX7_isNoFamily ∈ z_TB := z_t2 (i := 34) (by decide +kernel) rfl
theorem tw_275 : Cond.code yX7_isNoFamily cX7_isNoFamily 1 (some .boolean) ∈ z_TB := z_t2 (i := 35) (by decide +kernel) rfl
theorem tw_276 : Cond.methodLink RX7 88 yX7_isNoSet ∈ z_TB := z_t2 (i := 36) (by decide +kernel) rfl
theorem tw_277 : Cond.static yX7_isNoSet ∈ z_TB := z_t2 (i := 37) (by decide +kernel) rfl
theorem tw_278 : Cond.code yX7_isNoSet cX7_isNoSet 1 (some .boolean) ∈ z_TB := z_t2 (i := 38) (by decide +kernel) rfl
theorem tw_279 : Cond.methodLink RX7 95 yX1_tallyOf ∈ z_TB := z_t2 (i := 39) (by decide +kernel) rfl
theorem tw_280 : Cond.instanceMethod yX1_tallyOf ∈ z_TB := z_t2 (i := 40) (by decide +kernel) rfl
theorem tw_281 : Cond.selects RX1 yX1_tallyOf yX1_tallyOf ∈ z_TB := z_t2 (i := 41) (by decide +kernel) rfl
theorem tw_282 : Cond.code yX1_tallyOf cX1_tallyOf 3 (some .int) ∈ z_TB := z_t2 (i := 42) (by decide +kernel) rfl
theorem tw_283 : Cond.methodLink RX1 22 yX1_placeOf ∈ z_TB := z_t2 (i := 43) (by decide +kernel) rfl
theorem tw_284 : Cond.instanceMethod yX1_placeOf ∈ z_TB := z_t2 (i := 44) (by decide +kernel) rfl
theorem tw_285 : Cond.selects RX1 yX1_placeOf yX1_placeOf ∈ z_TB := z_t2 (i := 45) (by decide +kernel) rfl
theorem tw_286 : Cond.code yX1_placeOf cX1_placeOf 3 (some .int) ∈ z_TB := z_t2 (i := 46) (by decide +kernel) rfl
theorem tw_287 : Cond.methodLink RX7 99 yX1_add ∈ z_TB := z_t2 (i := 47) (by decide +kernel) rfl
theorem tw_288 : Cond.instanceMethod yX1_add ∈ z_TB := z_t2 (i := 48) (by decide +kernel) rfl
theorem tw_289 : Cond.selects RX1 yX1_add yX1_add ∈ z_TB := z_t2 (i := 49) (by decide +kernel) rfl
theorem tw_290 : Cond.code yX1_add cX1_add 3 (some .int) ∈ z_TB := z_t2 (i := 50) (by decide +kernel) rfl
theorem tw_291 : Cond.methodLink RX1 26 yX1_append ∈ z_TB := z_t2 (i := 51) (by decide +kernel) rfl
theorem tw_292 : Cond.instanceMethod yX1_append ∈ z_TB := z_t2 (i := 52) (by decide +kernel) rfl
theorem tw_293 : Cond.selects RX1 yX1_append yX1_append ∈ z_TB := z_t2 (i := 53) (by decide +kernel) rfl
theorem tw_294 : Cond.code yX1_append cX1_append 3 (some .int) ∈ z_TB := z_t2 (i := 54) (by decide +kernel) rfl
theorem tw_295 : Cond.methodLink RX1 30 yJ9_min_7cf53 ∈ z_TB := z_t2 (i := 55) (by decide +kernel) rfl
theorem tw_296 : Cond.static yJ9_min_7cf53 ∈ z_TB := z_t2 (i := 56) (by decide +kernel) rfl
theorem tw_297 : Cond.code yJ9_min_7cf53 cJ9_min_7cf53 2 (some .int) ∈ z_TB := z_t2 (i := 57) (by decide +kernel) rfl
theorem tw_298 : Cond.methodLink RL 27 yX7_take ∈ z_TB := z_t2 (i := 58) (by decide +kernel) rfl
theorem tw_299 : Cond.instanceMethod yX7_take ∈ z_TB := z_t2 (i := 59) (by decide +kernel) rfl
theorem tw_300 : Cond.selects RX7 yX7_take yX7_take ∈ z_TB := z_t2 (i := 60) (by decide +kernel) rfl
theorem tw_301 : Cond.code yX7_take cX7_take 4 (some .int) ∈ z_TB := z_t2 (i := 61) (by decide +kernel) rfl
theorem tw_302 : Cond.methodLink RX7 102 yX1_drop ∈ z_TB := z_t2 (i := 62) (by decide +kernel) rfl
theorem tw_303 : Cond.instanceMethod yX1_drop ∈ z_TB := z_t2 (i := 63) (by decide +kernel) rfl
theorem tw_304 : Cond.selects RX1 yX1_drop yX1_drop ∈ z_TB := z_t2 (i := 64) (by decide +kernel) rfl
theorem tw_305 : Cond.code yX1_drop cX1_drop 4 (some .int) ∈ z_TB := z_t2 (i := 65) (by decide +kernel) rfl
theorem tw_306 : Cond.methodLink RX1 35 yX1_removeAt ∈ z_TB := z_t2 (i := 66) (by decide +kernel) rfl
theorem tw_307 : Cond.instanceMethod yX1_removeAt ∈ z_TB := z_t2 (i := 67) (by decide +kernel) rfl
theorem tw_308 : Cond.selects RX1 yX1_removeAt yX1_removeAt ∈ z_TB := z_t2 (i := 68) (by decide +kernel) rfl
theorem tw_309 : Cond.code yX1_removeAt cX1_removeAt 3 none ∈ z_TB := z_t2 (i := 69) (by decide +kernel) rfl
theorem tw_310 : Cond.methodLink RL 31 yX7_tally ∈ z_TB := z_t2 (i := 70) (by decide +kernel) rfl
theorem tw_311 : Cond.instanceMethod yX7_tally ∈ z_TB := z_t2 (i := 71) (by decide +kernel) rfl
theorem tw_312 : Cond.selects RX7 yX7_tally yX7_tally ∈ z_TB := z_t2 (i := 72) (by decide +kernel) rfl
theorem tw_313 : Cond.code yX7_tally cX7_tally 3 (some .int) ∈ z_TB := z_t2 (i := 73) (by decide +kernel) rfl
theorem tw_314 : Cond.methodLink RL 35 yX7_at ∈ z_TB := z_t2 (i := 74) (by decide +kernel) rfl
theorem tw_315 : Cond.instanceMethod yX7_at ∈ z_TB := z_t2 (i := 75) (by decide +kernel) rfl
theorem tw_316 : Cond.selects RX7 yX7_at yX7_at ∈ z_TB := z_t2 (i := 76) (by decide +kernel) rfl
theorem tw_317 : Cond.code yX7_at cX7_at 4 (some .int) ∈ z_TB := z_t2 (i := 77) (by decide +kernel) rfl
theorem tw_318 : Cond.methodLink RL 39 yX7_size ∈ z_TB := z_t2 (i := 78) (by decide +kernel) rfl
theorem tw_319 : Cond.instanceMethod yX7_size ∈ z_TB := z_t2 (i := 79) (by decide +kernel) rfl
theorem tw_320 : Cond.selects RX7 yX7_size yX7_size ∈ z_TB := z_t2 (i := 80) (by decide +kernel) rfl
theorem tw_321 : Cond.code yX7_size cX7_size 2 (some .int) ∈ z_TB := z_t2 (i := 81) (by decide +kernel) rfl
theorem tw_322 : Cond.methodLink RL 43 yX7_wipe ∈ z_TB := z_t2 (i := 82) (by decide +kernel) rfl
theorem tw_323 : Cond.instanceMethod yX7_wipe ∈ z_TB := z_t2 (i := 83) (by decide +kernel) rfl
theorem tw_324 : Cond.selects RX7 yX7_wipe yX7_wipe ∈ z_TB := z_t2 (i := 84) (by decide +kernel) rfl
theorem tw_325 : Cond.code yX7_wipe cX7_wipe 3 (some .int) ∈ z_TB := z_t2 (i := 85) (by decide +kernel) rfl
theorem tw_326 : Cond.methodLink RX7 112 yX1_clear ∈ z_TB := z_t2 (i := 86) (by decide +kernel) rfl
theorem tw_327 : Cond.instanceMethod yX1_clear ∈ z_TB := z_t2 (i := 87) (by decide +kernel) rfl
theorem tw_328 : Cond.selects RX1 yX1_clear yX1_clear ∈ z_TB := z_t2 (i := 88) (by decide +kernel) rfl
theorem tw_329 : Cond.code yX1_clear cX1_clear 1 none ∈ z_TB := z_t2 (i := 89) (by decide +kernel) rfl
theorem tw_330 : Cond.methodLink RX7 115 yX0_forgetAll ∈ z_TB := z_t2 (i := 90) (by decide +kernel) rfl
theorem tw_331 : Cond.instanceMethod yX0_forgetAll ∈ z_TB := z_t2 (i := 91) (by decide +kernel) rfl
theorem tw_332 : Cond.selects RX0 yX0_forgetAll yX0_forgetAll ∈ z_TB := z_t2 (i := 92) (by decide +kernel) rfl
theorem tw_333 : Cond.code yX0_forgetAll cX0_forgetAll 1 none ∈ z_TB := z_t2 (i := 93) (by decide +kernel) rfl
theorem tw_334 : Cond.methodLink RL 47 yX7_copy ∈ z_TB := z_t2 (i := 94) (by decide +kernel) rfl
theorem tw_335 : Cond.instanceMethod yX7_copy ∈ z_TB := z_t2 (i := 95) (by decide +kernel) rfl
theorem tw_336 : Cond.selects RX7 yX7_copy yX7_copy ∈ z_TB := z_t2 (i := 96) (by decide +kernel) rfl
theorem tw_337 : Cond.code yX7_copy cX7_copy 3 (some .int) ∈ z_TB := z_t2 (i := 97) (by decide +kernel) rfl
theorem tw_338 : Cond.methodLink RX7 118 yX1_become ∈ z_TB := z_t2 (i := 98) (by decide +kernel) rfl
theorem tw_339 : Cond.instanceMethod yX1_become ∈ z_TB := z_t2 (i := 99) (by decide +kernel) rfl
theorem tw_340 : Cond.selects RX1 yX1_become yX1_become ∈ z_TB := z_t2 (i := 100) (by decide +kernel) rfl
theorem tw_341 : Cond.code yX1_become cX1_become 2 none ∈ z_TB := z_t2 (i := 101) (by decide +kernel) rfl
theorem tw_342 : Cond.methodLink RX1 39 arraycopyName ∈ z_TB := z_t2 (i := 102) (by decide +kernel) rfl
theorem tw_343 : Cond.methodLink RL 51 yX7_undo ∈ z_TB := z_t2 (i := 103) (by decide +kernel) rfl
theorem tw_344 : Cond.instanceMethod yX7_undo ∈ z_TB := z_t2 (i := 104) (by decide +kernel) rfl
theorem tw_345 : Cond.selects RX7 yX7_undo yX7_undo ∈ z_TB := z_t2 (i := 105) (by decide +kernel) rfl
theorem tw_346 : Cond.code yX7_undo cX7_undo 4 (some .int) ∈ z_TB := z_t2 (i := 106) (by decide +kernel) rfl
theorem tw_347 : Cond.methodLink RX7 125 yX0_forgetLast ∈ z_TB := z_t2 (i := 107) (by decide +kernel) rfl
theorem tw_348 : Cond.instanceMethod yX0_forgetLast ∈ z_TB := z_t2 (i := 108) (by decide +kernel) rfl
theorem tw_349 : Cond.selects RX0 yX0_forgetLast yX0_forgetLast ∈ z_TB := z_t2 (i := 109) (by decide +kernel) rfl
theorem tw_350 : Cond.code yX0_forgetLast cX0_forgetLast 1 (some .int) ∈ z_TB := z_t2 (i := 110) (by decide +kernel) rfl
theorem tw_351 : Cond.methodLink RX0 34 yJ9_max_7cf53 ∈ z_TB := z_t2 (i := 111) (by decide +kernel) rfl
theorem tw_352 : Cond.static yJ9_max_7cf53 ∈ z_TB := z_t2 (i := 112) (by decide +kernel) rfl
theorem tw_353 : Cond.code yJ9_max_7cf53 cJ9_max_7cf53 2 (some .int) ∈ z_TB := z_t2 (i := 113) (by decide +kernel) rfl
theorem tw_354 : Cond.methodLink RL 56 yX7_often ∈ z_TB := z_t2 (i := 114) (by decide +kernel) rfl
theorem tw_355 : Cond.instanceMethod yX7_often ∈ z_TB := z_t2 (i := 115) (by decide +kernel) rfl
theorem tw_356 : Cond.selects RX7 yX7_often yX7_often ∈ z_TB := z_t2 (i := 116) (by decide +kernel) rfl
theorem tw_357 : Cond.code yX7_often cX7_often 3 (some .int) ∈ z_TB := z_t2 (i := 117) (by decide +kernel) rfl
theorem tw_358 : Cond.methodLink RX7 138 yX1_countWith ∈ z_TB := z_t2 (i := 118) (by decide +kernel) rfl
theorem tw_359 : Cond.instanceMethod yX1_countWith ∈ z_TB := z_t2 (i := 119) (by decide +kernel) rfl
theorem tw_360 : Cond.selects RX1 yX1_countWith yX1_countWith ∈ z_TB := z_t2 (i := 120) (by decide +kernel) rfl
theorem tw_361 : Cond.code yX1_countWith cX1_countWith 2 (some .int) ∈ z_TB := z_t2 (i := 121) (by decide +kernel) rfl
theorem tw_362 : Cond.methodLink RX1 45 yX1_countMet ∈ z_TB := z_t2 (i := 122) (by decide +kernel) rfl
theorem tw_363 : Cond.instanceMethod yX1_countMet ∈ z_TB := z_t2 (i := 123) (by decide +kernel) rfl
theorem tw_364 : Cond.selects RX1 yX1_countMet yX1_countMet ∈ z_TB := z_t2 (i := 124) (by decide +kernel) rfl
theorem tw_365 : Cond.code yX1_countMet cX1_countMet 4 (some .int) ∈ z_TB := z_t2 (i := 125) (by decide +kernel) rfl
theorem tw_366 : Cond.methodLink RL 60 yX7_top ∈ z_TB := z_t2 (i := 126) (by decide +kernel) rfl
theorem tw_367 : Cond.instanceMethod yX7_top ∈ z_TB := z_t2 (i := 127) (by decide +kernel) rfl
theorem tw_368 : Cond.selects RX7 yX7_top yX7_top ∈ z_TB := z_t2 (i := 128) (by decide +kernel) rfl
theorem tw_369 : Cond.code yX7_top cX7_top 2 (some .int) ∈ z_TB := z_t2 (i := 129) (by decide +kernel) rfl
theorem tw_370 : Cond.methodLink RX7 141 yX7_topPoint ∈ z_TB := z_t2 (i := 130) (by decide +kernel) rfl
theorem tw_371 : Cond.static yX7_topPoint ∈ z_TB := z_t2 (i := 131) (by decide +kernel) rfl
theorem tw_372 : Cond.code yX7_topPoint cX7_topPoint 7 (some .int) ∈ z_TB := z_t2 (i := 132) (by decide +kernel) rfl
theorem tw_373 : Cond.methodLink RL 64 yX7_isSimple ∈ z_TB := z_t2 (i := 133) (by decide +kernel) rfl
theorem tw_374 : Cond.instanceMethod yX7_isSimple ∈ z_TB := z_t2 (i := 134) (by decide +kernel) rfl
theorem tw_375 : Cond.selects RX7 yX7_isSimple yX7_isSimple ∈ z_TB := z_t2 (i := 135) (by decide +kernel) rfl
theorem tw_376 : Cond.code yX7_isSimple cX7_isSimple 4 (some .int) ∈ z_TB := z_t2 (i := 136) (by decide +kernel) rfl
theorem tw_377 : Cond.methodLink RX7 145 yX1_hasPart ∈ z_TB := z_t2 (i := 137) (by decide +kernel) rfl
theorem tw_378 : Cond.instanceMethod yX1_hasPart ∈ z_TB := z_t2 (i := 138) (by decide +kernel) rfl
theorem tw_379 : Cond.selects RX1 yX1_hasPart yX1_hasPart ∈ z_TB := z_t2 (i := 139) (by decide +kernel) rfl
theorem tw_380 : Cond.code yX1_hasPart cX1_hasPart 3 (some .boolean) ∈ z_TB := z_t2 (i := 140) (by decide +kernel) rfl
theorem tn_381 : Cond.methodLinkNest RX1 48 yX7_isPart RX7 ∈ lw_tbl := z_l2 (i := 141) (by decide +kernel)
theorem tw_382 : Cond.static yX7_isPart ∈ z_TB := z_t2 (i := 142) (by decide +kernel) rfl
theorem tw_383 : Cond.code yX7_isPart cX7_isPart 2 (some .boolean) ∈ z_TB := z_t2 (i := 143) (by decide +kernel) rfl
theorem tw_384 : Cond.methodLink RL 68 yX7_lean ∈ z_TB := z_t2 (i := 144) (by decide +kernel) rfl
theorem tw_385 : Cond.instanceMethod yX7_lean ∈ z_TB := z_t2 (i := 145) (by decide +kernel) rfl
theorem tw_386 : Cond.selects RX7 yX7_lean yX7_lean ∈ z_TB := z_t2 (i := 146) (by decide +kernel) rfl
theorem tw_387 : Cond.code yX7_lean cX7_lean 5 (some .int) ∈ z_TB := z_t2 (i := 147) (by decide +kernel) rfl
theorem tw_388 : Cond.methodLink RX7 151 yX1_append ∈ z_TB := z_t2 (i := 148) (by decide +kernel) rfl
theorem tw_389 : Cond.methodLink RL 72 yX7_test ∈ z_TB := z_t2 (i := 149) (by decide +kernel) rfl
theorem tw_390 : Cond.instanceMethod yX7_test ∈ z_TB := z_t2 (i := 150) (by decide +kernel) rfl
theorem tw_391 : Cond.selects RX7 yX7_test yX7_test ∈ z_TB := z_t2 (i := 151) (by decide +kernel) rfl
theorem tw_392 : Cond.code yX7_test cX7_test 4 (some .int) ∈ z_TB := z_t2 (i := 152) (by decide +kernel) rfl
theorem tw_393 : Cond.methodLink RX7 155 yX7_isNoTest ∈ z_TB := z_t2 (i := 153) (by decide +kernel) rfl
theorem tw_394 : Cond.static yX7_isNoTest ∈ z_TB := z_t2 (i := 154) (by decide +kernel) rfl
theorem tw_395 : Cond.code yX7_isNoTest cX7_isNoTest 1 (some .boolean) ∈ z_TB := z_t2 (i := 155) (by decide +kernel) rfl
theorem tw_396 : Cond.methodLink RX7 158 yX7_tableOf ∈ z_TB := z_t2 (i := 156) (by decide +kernel) rfl
theorem tw_398 : Cond.instanceMethod yX7_tableOf ∈ z_TB := z_t2 (i := 158) (by decide +kernel) rfl
theorem tw_399 : Cond.code yX7_tableOf cX7_tableOf 3 (some (.object RX5)) ∈ z_TB := z_t2 (i := 159) (by decide +kernel) rfl
theorem tw_400 : Cond.methodLink RX7 312 yX5_becomeHitting ∈ z_TB := z_t2 (i := 160) (by decide +kernel) rfl
theorem tw_401 : Cond.instanceMethod yX5_becomeHitting ∈ z_TB := z_t2 (i := 161) (by decide +kernel) rfl
theorem tw_402 : Cond.selects RX5 yX5_becomeHitting yX5_becomeHitting ∈ z_TB := z_t2 (i := 162) (by decide +kernel) rfl
theorem tw_403 : Cond.code yX5_becomeHitting cX5_becomeHitting 3 none ∈ z_TB := z_t2 (i := 163) (by decide +kernel) rfl
theorem tw_404 : Cond.methodLink RX5 24 yJ7_fill_d0a16 ∈ z_TB := z_t2 (i := 164) (by decide +kernel) rfl
theorem tw_405 : Cond.static yJ7_fill_d0a16 ∈ z_TB := z_t2 (i := 165) (by decide +kernel) rfl
theorem tw_406 : Cond.code yJ7_fill_d0a16 cJ7_fill_d0a16 5 none ∈ z_TB := z_t2 (i := 166) (by decide +kernel) rfl
theorem tw_407 : Cond.methodLink RX5 39 yX5_put ∈ z_TB := z_t2 (i := 167) (by decide +kernel) rfl
theorem tw_408 : Cond.instanceMethod yX5_put ∈ z_TB := z_t2 (i := 168) (by decide +kernel) rfl
theorem tw_409 : Cond.selects RX5 yX5_put yX5_put ∈ z_TB := z_t2 (i := 169) (by decide +kernel) rfl
theorem tw_410 : Cond.code yX5_put cX5_put 2 none ∈ z_TB := z_t2 (i := 170) (by decide +kernel) rfl
theorem tw_411 : Cond.methodLink RX5 43 yX5_addParts ∈ z_TB := z_t2 (i := 171) (by decide +kernel) rfl
theorem tw_412 : Cond.instanceMethod yX5_addParts ∈ z_TB := z_t2 (i := 172) (by decide +kernel) rfl
theorem tw_413 : Cond.selects RX5 yX5_addParts yX5_addParts ∈ z_TB := z_t2 (i := 173) (by decide +kernel) rfl
theorem tw_414 : Cond.code yX5_addParts cX5_addParts 3 none ∈ z_TB := z_t2 (i := 174) (by decide +kernel) rfl
theorem tw_415 : Cond.fieldLink RX5 21 RX5 "WITH" "[J" ∈ z_TB := z_t2 (i := 175) (by decide +kernel) rfl
theorem tn_416 : Cond.laysStatic RX5 "WITH" "[J" ∈ lw_tbl := z_l2 (i := 176) (by decide +kernel)
theorem tw_417 : Cond.methodLink RX5 46 yX5_flip ∈ z_TB := z_t2 (i := 177) (by decide +kernel) rfl
theorem tw_418 : Cond.instanceMethod yX5_flip ∈ z_TB := z_t2 (i := 178) (by decide +kernel) rfl
theorem tw_419 : Cond.selects RX5 yX5_flip yX5_flip ∈ z_TB := z_t2 (i := 179) (by decide +kernel) rfl
theorem tw_420 : Cond.code yX5_flip cX5_flip 2 none ∈ z_TB := z_t2 (i := 180) (by decide +kernel) rfl
theorem tw_421 : Cond.constantLong RX5 19 (-1) ∈ z_TB := z_t2 (i := 181) (by decide +kernel) rfl
theorem tw_422 : Cond.methodLink RX7 171 yX7_findDual ∈ z_TB := z_t2 (i := 182) (by decide +kernel) rfl
theorem tw_424 : Cond.instanceMethod yX7_findDual ∈ z_TB := z_t2 (i := 184) (by decide +kernel) rfl
theorem tw_425 : Cond.code yX7_findDual cX7_findDual 2 none ∈ z_TB := z_t2 (i := 185) (by decide +kernel) rfl
theorem tw_426 : Cond.methodLink RX7 222 yX5_becomeLeastOf ∈ z_TB := z_t2 (i := 186) (by decide +kernel) rfl
theorem tw_427 : Cond.instanceMethod yX5_becomeLeastOf ∈ z_TB := z_t2 (i := 187) (by decide +kernel) rfl
theorem tw_428 : Cond.selects RX5 yX5_becomeLeastOf yX5_becomeLeastOf ∈ z_TB := z_t2 (i := 188) (by decide +kernel) rfl
theorem tw_429 : Cond.code yX5_becomeLeastOf cX5_becomeLeastOf 8 none ∈ z_TB := z_t2 (i := 189) (by decide +kernel) rfl
theorem tn_430 : Cond.methodLinkNest RX5 52 yX7_hasPoint RX7 ∈ lw_tbl := z_l2 (i := 190) (by decide +kernel)
theorem tw_431 : Cond.static yX7_hasPoint ∈ z_TB := z_t2 (i := 191) (by decide +kernel) rfl
theorem tw_432 : Cond.code yX7_hasPoint cX7_hasPoint 2 (some .boolean) ∈ z_TB := z_t2 (i := 192) (by decide +kernel) rfl
theorem tw_433 : Cond.methodLink RX7 315 yX5_becomeSetsOf ∈ z_TB := z_t2 (i := 193) (by decide +kernel) rfl
theorem tw_434 : Cond.instanceMethod yX5_becomeSetsOf ∈ z_TB := z_t2 (i := 194) (by decide +kernel) rfl
theorem tw_435 : Cond.selects RX5 yX5_becomeSetsOf yX5_becomeSetsOf ∈ z_TB := z_t2 (i := 195) (by decide +kernel) rfl
theorem tw_436 : Cond.code yX5_becomeSetsOf cX5_becomeSetsOf 3 none ∈ z_TB := z_t2 (i := 196) (by decide +kernel) rfl
theorem tw_437 : Cond.methodLink RX7 318 yX5_addWholes ∈ z_TB := z_t2 (i := 197) (by decide +kernel) rfl
theorem tw_438 : Cond.instanceMethod yX5_addWholes ∈ z_TB := z_t2 (i := 198) (by decide +kernel) rfl
theorem tw_439 : Cond.selects RX5 yX5_addWholes yX5_addWholes ∈ z_TB := z_t2 (i := 199) (by decide +kernel) rfl
theorem tw_440 : Cond.code yX5_addWholes cX5_addWholes 3 none ∈ z_TB := z_t2 (i := 200) (by decide +kernel) rfl
theorem tw_441 : Cond.methodLink RX7 165 yX5_flip ∈ z_TB := z_t2 (i := 201) (by decide +kernel) rfl
theorem tw_442 : Cond.methodLink RX7 321 yX5_addParts ∈ z_TB := z_t2 (i := 202) (by decide +kernel) rfl
theorem tw_443 : Cond.methodLink RX7 324 yX5_becomeOdd ∈ z_TB := z_t2 (i := 203) (by decide +kernel) rfl
theorem tw_444 : Cond.instanceMethod yX5_becomeOdd ∈ z_TB := z_t2 (i := 204) (by decide +kernel) rfl
theorem tw_445 : Cond.selects RX5 yX5_becomeOdd yX5_becomeOdd ∈ z_TB := z_t2 (i := 205) (by decide +kernel) rfl
theorem tw_446 : Cond.code yX5_becomeOdd cX5_becomeOdd 3 none ∈ z_TB := z_t2 (i := 206) (by decide +kernel) rfl
theorem tw_447 : Cond.methodLink RX5 49 yX5_keepOdd ∈ z_TB := z_t2 (i := 207) (by decide +kernel) rfl
theorem tw_448 : Cond.instanceMethod yX5_keepOdd ∈ z_TB := z_t2 (i := 208) (by decide +kernel) rfl
theorem tw_449 : Cond.selects RX5 yX5_keepOdd yX5_keepOdd ∈ z_TB := z_t2 (i := 209) (by decide +kernel) rfl
theorem tw_450 : Cond.code yX5_keepOdd cX5_keepOdd 6 none ∈ z_TB := z_t2 (i := 210) (by decide +kernel) rfl
theorem tw_451 : Cond.methodLink RX5 56 yJ6_bitCount_0f7a4 ∈ z_TB := z_t2 (i := 211) (by decide +kernel) rfl
theorem tw_452 : Cond.static yJ6_bitCount_0f7a4 ∈ z_TB := z_t2 (i := 212) (by decide +kernel) rfl
theorem tw_453 : Cond.code yJ6_bitCount_0f7a4 cJ6_bitCount_0f7a4 1 (some .int) ∈ z_TB := z_t2 (i := 213) (by decide +kernel) rfl
theorem tw_454 : Cond.constant RJ6 265 (1431655765) ∈ z_TB := z_t2 (i := 214) (by decide +kernel) rfl
theorem tw_455 : Cond.constant RJ6 266 (858993459) ∈ z_TB := z_t2 (i := 215) (by decide +kernel) rfl
theorem tw_456 : Cond.constant RJ6 267 (252645135) ∈ z_TB := z_t2 (i := 216) (by decide +kernel) rfl
theorem tw_457 : Cond.methodLink RX7 162 yX5_has ∈ z_TB := z_t2 (i := 217) (by decide +kernel) rfl
theorem tw_458 : Cond.instanceMethod yX5_has ∈ z_TB := z_t2 (i := 218) (by decide +kernel) rfl
theorem tw_459 : Cond.selects RX5 yX5_has yX5_has ∈ z_TB := z_t2 (i := 219) (by decide +kernel) rfl
theorem tw_460 : Cond.code yX5_has cX5_has 2 (some .boolean) ∈ z_TB := z_t2 (i := 220) (by decide +kernel) rfl
theorem tw_461 : Cond.methodLink RL 77 yX7_counted ∈ z_TB := z_t2 (i := 221) (by decide +kernel) rfl
theorem tw_462 : Cond.instanceMethod yX7_counted ∈ z_TB := z_t2 (i := 222) (by decide +kernel) rfl
theorem tw_463 : Cond.selects RX7 yX7_counted yX7_counted ∈ z_TB := z_t2 (i := 223) (by decide +kernel) rfl
theorem tw_464 : Cond.code yX7_counted cX7_counted 6 (some .int) ∈ z_TB := z_t2 (i := 224) (by decide +kernel) rfl
theorem tw_465 : Cond.methodLink RX7 168 yX5_countOf ∈ z_TB := z_t2 (i := 225) (by decide +kernel) rfl
theorem tw_466 : Cond.instanceMethod yX5_countOf ∈ z_TB := z_t2 (i := 226) (by decide +kernel) rfl
theorem tw_467 : Cond.selects RX5 yX5_countOf yX5_countOf ∈ z_TB := z_t2 (i := 227) (by decide +kernel) rfl
theorem tw_468 : Cond.code yX5_countOf cX5_countOf 5 (some .int) ∈ z_TB := z_t2 (i := 228) (by decide +kernel) rfl
theorem tw_469 : Cond.fieldLink RX5 80 RX5 "OF_COUNT" "[J" ∈ z_TB := z_t2 (i := 229) (by decide +kernel) rfl
theorem tn_470 : Cond.laysStatic RX5 "OF_COUNT" "[J" ∈ lw_tbl := z_l2 (i := 230) (by decide +kernel)
theorem tw_471 : Cond.methodLink RX5 75 yJ13_bitCount_95d88 ∈ z_TB := z_t2 (i := 231) (by decide +kernel) rfl
theorem tw_472 : Cond.static yJ13_bitCount_95d88 ∈ z_TB := z_t2 (i := 232) (by decide +kernel) rfl
theorem tw_473 : Cond.code yJ13_bitCount_95d88 cJ13_bitCount_95d88 2 (some .int) ∈ z_TB := z_t2 (i := 233) (by decide +kernel) rfl
theorem tw_474 : Cond.constantLong RJ13 314 (6148914691236517205) ∈ z_TB := z_t2 (i := 234) (by decide +kernel) rfl
theorem tw_475 : Cond.constantLong RJ13 316 (3689348814741910323) ∈ z_TB := z_t2 (i := 235) (by decide +kernel) rfl
theorem tw_476 : Cond.constantLong RJ13 318 (1085102592571150095) ∈ z_TB := z_t2 (i := 236) (by decide +kernel) rfl
theorem tw_477 : Cond.methodLink RL 82 yX7_dual ∈ z_TB := z_t2 (i := 237) (by decide +kernel) rfl
theorem tw_478 : Cond.instanceMethod yX7_dual ∈ z_TB := z_t2 (i := 238) (by decide +kernel) rfl
theorem tw_479 : Cond.selects RX7 yX7_dual yX7_dual ∈ z_TB := z_t2 (i := 239) (by decide +kernel) rfl
theorem tw_480 : Cond.code yX7_dual cX7_dual 3 (some .int) ∈ z_TB := z_t3 (i := 0) (by decide +kernel) rfl
theorem tw_481 : Cond.methodLink RX7 174 yX7_listed ∈ z_TB := z_t3 (i := 1) (by decide +kernel) rfl
theorem tw_482 : Cond.static yX7_listed ∈ z_TB := z_t3 (i := 2) (by decide +kernel) rfl
theorem tw_483 : Cond.code yX7_listed cX7_listed 2 (some .int) ∈ z_TB := z_t3 (i := 3) (by decide +kernel) rfl
theorem tw_484 : Cond.methodLink RX7 178 yX5_countAll ∈ z_TB := z_t3 (i := 4) (by decide +kernel) rfl
theorem tw_485 : Cond.instanceMethod yX5_countAll ∈ z_TB := z_t3 (i := 5) (by decide +kernel) rfl
theorem tw_486 : Cond.selects RX5 yX5_countAll yX5_countAll ∈ z_TB := z_t3 (i := 6) (by decide +kernel) rfl
theorem tw_487 : Cond.code yX5_countAll cX5_countAll 3 (some .int) ∈ z_TB := z_t3 (i := 7) (by decide +kernel) rfl
theorem tw_488 : Cond.methodLink RX7 181 yX5_pick ∈ z_TB := z_t3 (i := 8) (by decide +kernel) rfl
theorem tw_489 : Cond.instanceMethod yX5_pick ∈ z_TB := z_t3 (i := 9) (by decide +kernel) rfl
theorem tw_490 : Cond.selects RX5 yX5_pick yX5_pick ∈ z_TB := z_t3 (i := 10) (by decide +kernel) rfl
theorem tw_491 : Cond.code yX5_pick cX5_pick 5 (some .int) ∈ z_TB := z_t3 (i := 11) (by decide +kernel) rfl
theorem tw_492 : Cond.methodLink RX5 83 yX5_placeOfBit ∈ z_TB := z_t3 (i := 12) (by decide +kernel) rfl
theorem tw_493 : Cond.static yX5_placeOfBit ∈ z_TB := z_t3 (i := 13) (by decide +kernel) rfl
theorem tw_494 : Cond.code yX5_placeOfBit cX5_placeOfBit 6 (some .int) ∈ z_TB := z_t3 (i := 14) (by decide +kernel) rfl
theorem tw_495 : Cond.methodLink RL 86 yX7_into ∈ z_TB := z_t3 (i := 15) (by decide +kernel) rfl
theorem tw_496 : Cond.instanceMethod yX7_into ∈ z_TB := z_t3 (i := 16) (by decide +kernel) rfl
theorem tw_497 : Cond.selects RX7 yX7_into yX7_into ∈ z_TB := z_t3 (i := 17) (by decide +kernel) rfl
theorem tw_498 : Cond.code yX7_into cX7_into 5 (some .int) ∈ z_TB := z_t3 (i := 18) (by decide +kernel) rfl
theorem tw_499 : Cond.methodLink RL 90 yX7_verdict ∈ z_TB := z_t3 (i := 19) (by decide +kernel) rfl
theorem tw_500 : Cond.instanceMethod yX7_verdict ∈ z_TB := z_t3 (i := 20) (by decide +kernel) rfl
theorem tw_501 : Cond.selects RX7 yX7_verdict yX7_verdict ∈ z_TB := z_t3 (i := 21) (by decide +kernel) rfl
theorem tw_502 : Cond.code yX7_verdict cX7_verdict 7 (some .int) ∈ z_TB := z_t3 (i := 22) (by decide +kernel) rfl
theorem tw_503 : Cond.methodLink RX7 184 yX1_firstOutside ∈ z_TB := z_t3 (i := 23) (by decide +kernel) rfl
theorem tw_504 : Cond.instanceMethod yX1_firstOutside ∈ z_TB := z_t3 (i := 24) (by decide +kernel) rfl
theorem tw_505 : Cond.selects RX1 yX1_firstOutside yX1_firstOutside ∈ z_TB := z_t3 (i := 25) (by decide +kernel) rfl
theorem tw_506 : Cond.code yX1_firstOutside cX1_firstOutside 3 (some .int) ∈ z_TB := z_t3 (i := 26) (by decide +kernel) rfl
theorem tw_507 : Cond.methodLink RX1 52 yX5_has ∈ z_TB := z_t3 (i := 27) (by decide +kernel) rfl
theorem tw_508 : Cond.methodLink RX7 188 yX7_firstNotHeld ∈ z_TB := z_t3 (i := 28) (by decide +kernel) rfl
theorem tw_509 : Cond.static yX7_firstNotHeld ∈ z_TB := z_t3 (i := 29) (by decide +kernel) rfl
theorem tw_510 : Cond.code yX7_firstNotHeld cX7_firstNotHeld 4 (some .int) ∈ z_TB := z_t3 (i := 30) (by decide +kernel) rfl
theorem tw_511 : Cond.methodLink RX7 263 yX5_next ∈ z_TB := z_t3 (i := 31) (by decide +kernel) rfl
theorem tw_512 : Cond.instanceMethod yX5_next ∈ z_TB := z_t3 (i := 32) (by decide +kernel) rfl
theorem tw_513 : Cond.selects RX5 yX5_next yX5_next ∈ z_TB := z_t3 (i := 33) (by decide +kernel) rfl
theorem tw_514 : Cond.code yX5_next cX5_next 5 (some .int) ∈ z_TB := z_t3 (i := 34) (by decide +kernel) rfl
theorem tn_515 : Cond.methodLinkNest RX5 87 yX7_isNoSet RX7 ∈ lw_tbl := z_l3 (i := 35) (by decide +kernel)
theorem tw_516 : Cond.methodLink RX7 327 yX1_placeOf ∈ z_TB := z_t3 (i := 36) (by decide +kernel) rfl
theorem tw_517 : Cond.methodLink RL 94 yX7_tree ∈ z_TB := z_t3 (i := 37) (by decide +kernel) rfl
theorem tw_518 : Cond.instanceMethod yX7_tree ∈ z_TB := z_t3 (i := 38) (by decide +kernel) rfl
theorem tw_519 : Cond.selects RX7 yX7_tree yX7_tree ∈ z_TB := z_t3 (i := 39) (by decide +kernel) rfl
theorem tw_520 : Cond.code yX7_tree cX7_tree 3 (some .int) ∈ z_TB := z_t3 (i := 40) (by decide +kernel) rfl
theorem tw_521 : Cond.methodLink RX7 192 yX6_start ∈ z_TB := z_t3 (i := 41) (by decide +kernel) rfl
theorem tw_522 : Cond.instanceMethod yX6_start ∈ z_TB := z_t3 (i := 42) (by decide +kernel) rfl
theorem tw_523 : Cond.selects RX6 yX6_start yX6_start ∈ z_TB := z_t3 (i := 43) (by decide +kernel) rfl
theorem tw_524 : Cond.code yX6_start cX6_start 5 none ∈ z_TB := z_t3 (i := 44) (by decide +kernel) rfl
theorem tw_525 : Cond.methodLink RX6 38 yX1_hasPart ∈ z_TB := z_t3 (i := 45) (by decide +kernel) rfl
theorem tw_526 : Cond.methodLink RX6 46 yX6_visit ∈ z_TB := z_t3 (i := 46) (by decide +kernel) rfl
theorem tw_528 : Cond.instanceMethod yX6_visit ∈ z_TB := z_t3 (i := 48) (by decide +kernel) rfl
theorem tw_529 : Cond.code yX6_visit cX6_visit 5 none ∈ z_TB := z_t3 (i := 49) (by decide +kernel) rfl
theorem tn_530 : Cond.methodLinkNest RX6 50 yX7_topPoint RX7 ∈ lw_tbl := z_l3 (i := 50) (by decide +kernel)
theorem tw_531 : Cond.methodLink RX6 65 yJ9_max_7cf53 ∈ z_TB := z_t3 (i := 51) (by decide +kernel) rfl
theorem tw_532 : Cond.methodLink RX6 71 yX6_keepWithout ∈ z_TB := z_t3 (i := 52) (by decide +kernel) rfl
theorem tw_534 : Cond.instanceMethod yX6_keepWithout ∈ z_TB := z_t3 (i := 54) (by decide +kernel) rfl
theorem tw_535 : Cond.code yX6_keepWithout cX6_keepWithout 8 (some .int) ∈ z_TB := z_t3 (i := 55) (by decide +kernel) rfl
theorem tn_536 : Cond.methodLinkNest RX6 78 yX7_hasPoint RX7 ∈ lw_tbl := z_l3 (i := 56) (by decide +kernel)
theorem tw_537 : Cond.methodLink RX6 75 yX6_keepReduced ∈ z_TB := z_t3 (i := 57) (by decide +kernel) rfl
theorem tw_539 : Cond.instanceMethod yX6_keepReduced ∈ z_TB := z_t3 (i := 59) (by decide +kernel) rfl
theorem tw_540 : Cond.code yX6_keepReduced cX6_keepReduced 9 (some .int) ∈ z_TB := z_t3 (i := 60) (by decide +kernel) rfl
theorem tw_541 : Cond.methodLink RX6 82 yX6_hasPartIn ∈ z_TB := z_t3 (i := 61) (by decide +kernel) rfl
theorem tw_542 : Cond.static yX6_hasPartIn ∈ z_TB := z_t3 (i := 62) (by decide +kernel) rfl
theorem tw_543 : Cond.code yX6_hasPartIn cX6_hasPartIn 4 (some .boolean) ∈ z_TB := z_t3 (i := 63) (by decide +kernel) rfl
theorem tn_544 : Cond.methodLinkNest RX6 86 yX7_isPart RX7 ∈ lw_tbl := z_l3 (i := 64) (by decide +kernel)
theorem tw_545 : Cond.methodLink RL 98 yX7_node ∈ z_TB := z_t3 (i := 65) (by decide +kernel) rfl
theorem tw_546 : Cond.instanceMethod yX7_node ∈ z_TB := z_t3 (i := 66) (by decide +kernel) rfl
theorem tw_547 : Cond.selects RX7 yX7_node yX7_node ∈ z_TB := z_t3 (i := 67) (by decide +kernel) rfl
theorem tw_548 : Cond.code yX7_node cX7_node 4 (some .int) ∈ z_TB := z_t3 (i := 68) (by decide +kernel) rfl
theorem tw_549 : Cond.methodLink RL 102 yX7_keys ∈ z_TB := z_t3 (i := 69) (by decide +kernel) rfl
theorem tw_550 : Cond.instanceMethod yX7_keys ∈ z_TB := z_t3 (i := 70) (by decide +kernel) rfl
theorem tw_551 : Cond.selects RX7 yX7_keys yX7_keys ∈ z_TB := z_t3 (i := 71) (by decide +kernel) rfl
theorem tw_552 : Cond.code yX7_keys cX7_keys 3 (some .int) ∈ z_TB := z_t3 (i := 72) (by decide +kernel) rfl
theorem tw_553 : Cond.methodLink RX7 219 yX5_becomeTelling ∈ z_TB := z_t3 (i := 73) (by decide +kernel) rfl
theorem tw_554 : Cond.instanceMethod yX5_becomeTelling ∈ z_TB := z_t3 (i := 74) (by decide +kernel) rfl
theorem tw_555 : Cond.selects RX5 yX5_becomeTelling yX5_becomeTelling ∈ z_TB := z_t3 (i := 75) (by decide +kernel) rfl
theorem tw_556 : Cond.code yX5_becomeTelling cX5_becomeTelling 4 none ∈ z_TB := z_t3 (i := 76) (by decide +kernel) rfl
theorem tw_557 : Cond.methodLink RL 106 yX7_support ∈ z_TB := z_t3 (i := 77) (by decide +kernel) rfl
theorem tw_558 : Cond.instanceMethod yX7_support ∈ z_TB := z_t3 (i := 78) (by decide +kernel) rfl
theorem tw_559 : Cond.selects RX7 yX7_support yX7_support ∈ z_TB := z_t3 (i := 79) (by decide +kernel) rfl
theorem tw_560 : Cond.code yX7_support cX7_support 3 (some .int) ∈ z_TB := z_t3 (i := 80) (by decide +kernel) rfl
theorem tw_561 : Cond.methodLink RX7 226 yX1_talliesAround ∈ z_TB := z_t3 (i := 81) (by decide +kernel) rfl
theorem tw_562 : Cond.instanceMethod yX1_talliesAround ∈ z_TB := z_t3 (i := 82) (by decide +kernel) rfl
theorem tw_563 : Cond.selects RX1 yX1_talliesAround yX1_talliesAround ∈ z_TB := z_t3 (i := 83) (by decide +kernel) rfl
theorem tw_564 : Cond.code yX1_talliesAround cX1_talliesAround 4 (some .int) ∈ z_TB := z_t3 (i := 84) (by decide +kernel) rfl
theorem tw_565 : Cond.methodLink RL 110 yX7_border ∈ z_TB := z_t3 (i := 85) (by decide +kernel) rfl
theorem tw_566 : Cond.instanceMethod yX7_border ∈ z_TB := z_t3 (i := 86) (by decide +kernel) rfl
theorem tw_567 : Cond.selects RX7 yX7_border yX7_border ∈ z_TB := z_t3 (i := 87) (by decide +kernel) rfl
theorem tw_568 : Cond.code yX7_border cX7_border 5 (some .int) ∈ z_TB := z_t3 (i := 88) (by decide +kernel) rfl
theorem tw_569 : Cond.methodLink RX7 229 yX5_becomeCommon ∈ z_TB := z_t3 (i := 89) (by decide +kernel) rfl
theorem tw_570 : Cond.instanceMethod yX5_becomeCommon ∈ z_TB := z_t3 (i := 90) (by decide +kernel) rfl
theorem tw_571 : Cond.selects RX5 yX5_becomeCommon yX5_becomeCommon ∈ z_TB := z_t3 (i := 91) (by decide +kernel) rfl
theorem tw_572 : Cond.code yX5_becomeCommon cX5_becomeCommon 4 none ∈ z_TB := z_t3 (i := 92) (by decide +kernel) rfl
theorem tw_573 : Cond.methodLink RX5 62 yX5_commonWord ∈ z_TB := z_t3 (i := 93) (by decide +kernel) rfl
theorem tw_575 : Cond.instanceMethod yX5_commonWord ∈ z_TB := z_t3 (i := 95) (by decide +kernel) rfl
theorem tw_576 : Cond.code yX5_commonWord cX5_commonWord 8 (some .long) ∈ z_TB := z_t3 (i := 96) (by decide +kernel) rfl
theorem tw_577 : Cond.methodLink RX5 66 yJ7_fill_53178 ∈ z_TB := z_t3 (i := 97) (by decide +kernel) rfl
theorem tn_578 : Cond.methodLinkNest RX5 69 yX7_isPart RX7 ∈ lw_tbl := z_l3 (i := 98) (by decide +kernel)
theorem tw_579 : Cond.methodLink RX7 232 yX5_becomeGreatestOf ∈ z_TB := z_t3 (i := 99) (by decide +kernel) rfl
theorem tw_580 : Cond.instanceMethod yX5_becomeGreatestOf ∈ z_TB := z_t3 (i := 100) (by decide +kernel) rfl
theorem tw_581 : Cond.selects RX5 yX5_becomeGreatestOf yX5_becomeGreatestOf ∈ z_TB := z_t3 (i := 101) (by decide +kernel) rfl
theorem tw_582 : Cond.code yX5_becomeGreatestOf cX5_becomeGreatestOf 8 none ∈ z_TB := z_t3 (i := 102) (by decide +kernel) rfl
theorem tw_583 : Cond.methodLink RL 114 yX7_make ∈ z_TB := z_t3 (i := 103) (by decide +kernel) rfl
theorem tw_584 : Cond.instanceMethod yX7_make ∈ z_TB := z_t3 (i := 104) (by decide +kernel) rfl
theorem tw_585 : Cond.selects RX7 yX7_make yX7_make ∈ z_TB := z_t3 (i := 105) (by decide +kernel) rfl
theorem tw_586 : Cond.code yX7_make cX7_make 5 (some .int) ∈ z_TB := z_t3 (i := 106) (by decide +kernel) rfl
theorem tw_587 : Cond.methodLink RX7 235 yX7_canMake ∈ z_TB := z_t3 (i := 107) (by decide +kernel) rfl
theorem tw_588 : Cond.static yX7_canMake ∈ z_TB := z_t3 (i := 108) (by decide +kernel) rfl
theorem tw_589 : Cond.code yX7_canMake cX7_canMake 3 (some .boolean) ∈ z_TB := z_t3 (i := 109) (by decide +kernel) rfl
theorem tw_590 : Cond.methodLink RX7 239 yX7_fillSpare ∈ z_TB := z_t3 (i := 110) (by decide +kernel) rfl
theorem tw_592 : Cond.instanceMethod yX7_fillSpare ∈ z_TB := z_t3 (i := 112) (by decide +kernel) rfl
theorem tw_593 : Cond.code yX7_fillSpare cX7_fillSpare 7 (some .boolean) ∈ z_TB := z_t3 (i := 113) (by decide +kernel) rfl
theorem tw_594 : Cond.methodLink RX7 330 yJ6_bitCount_0f7a4 ∈ z_TB := z_t3 (i := 114) (by decide +kernel) rfl
theorem tw_595 : Cond.methodLink RX7 335 yX7_madeSet ∈ z_TB := z_t3 (i := 115) (by decide +kernel) rfl
theorem tw_596 : Cond.static yX7_madeSet ∈ z_TB := z_t3 (i := 116) (by decide +kernel) rfl
theorem tw_597 : Cond.code yX7_madeSet cX7_madeSet 4 (some .int) ∈ z_TB := z_t3 (i := 117) (by decide +kernel) rfl
theorem tw_598 : Cond.methodLink RX7 339 yX7_ringSet ∈ z_TB := z_t3 (i := 118) (by decide +kernel) rfl
theorem tw_599 : Cond.static yX7_ringSet ∈ z_TB := z_t3 (i := 119) (by decide +kernel) rfl
theorem tw_600 : Cond.code yX7_ringSet cX7_ringSet 5 (some .int) ∈ z_TB := z_t3 (i := 120) (by decide +kernel) rfl
theorem tw_601 : Cond.methodLink RX7 343 yX7_classSet ∈ z_TB := z_t3 (i := 121) (by decide +kernel) rfl
theorem tw_602 : Cond.static yX7_classSet ∈ z_TB := z_t3 (i := 122) (by decide +kernel) rfl
theorem tw_603 : Cond.code yX7_classSet cX7_classSet 4 (some .int) ∈ z_TB := z_t3 (i := 123) (by decide +kernel) rfl
theorem tw_604 : Cond.methodLink RL 118 yX7_rule ∈ z_TB := z_t3 (i := 124) (by decide +kernel) rfl
theorem tw_605 : Cond.instanceMethod yX7_rule ∈ z_TB := z_t3 (i := 125) (by decide +kernel) rfl
theorem tw_606 : Cond.selects RX7 yX7_rule yX7_rule ∈ z_TB := z_t3 (i := 126) (by decide +kernel) rfl
theorem tw_607 : Cond.code yX7_rule cX7_rule 5 (some .int) ∈ z_TB := z_t3 (i := 127) (by decide +kernel) rfl
theorem tw_608 : Cond.methodLink RX7 242 yX7_fitsHow ∈ z_TB := z_t3 (i := 128) (by decide +kernel) rfl
theorem tw_609 : Cond.static yX7_fitsHow ∈ z_TB := z_t3 (i := 129) (by decide +kernel) rfl
theorem tw_610 : Cond.code yX7_fitsHow cX7_fitsHow 2 (some .boolean) ∈ z_TB := z_t3 (i := 130) (by decide +kernel) rfl
theorem tw_611 : Cond.methodLink RX7 246 yX7_asksFirst ∈ z_TB := z_t3 (i := 131) (by decide +kernel) rfl
theorem tw_612 : Cond.static yX7_asksFirst ∈ z_TB := z_t3 (i := 132) (by decide +kernel) rfl
theorem tw_613 : Cond.code yX7_asksFirst cX7_asksFirst 1 (some .boolean) ∈ z_TB := z_t3 (i := 133) (by decide +kernel) rfl
theorem tw_614 : Cond.methodLink RX7 249 yX7_isNoRule ∈ z_TB := z_t3 (i := 134) (by decide +kernel) rfl
theorem tw_616 : Cond.instanceMethod yX7_isNoRule ∈ z_TB := z_t3 (i := 136) (by decide +kernel) rfl
theorem tw_617 : Cond.code yX7_isNoRule cX7_isNoRule 2 (some .boolean) ∈ z_TB := z_t3 (i := 137) (by decide +kernel) rfl
theorem tw_618 : Cond.methodLink RX7 252 yX7_asksSecond ∈ z_TB := z_t3 (i := 138) (by decide +kernel) rfl
theorem tw_619 : Cond.static yX7_asksSecond ∈ z_TB := z_t3 (i := 139) (by decide +kernel) rfl
theorem tw_620 : Cond.code yX7_asksSecond cX7_asksSecond 1 (some .boolean) ∈ z_TB := z_t3 (i := 140) (by decide +kernel) rfl
theorem tw_621 : Cond.methodLink RX7 257 yX2_become ∈ z_TB := z_t3 (i := 141) (by decide +kernel) rfl
theorem tw_622 : Cond.instanceMethod yX2_become ∈ z_TB := z_t3 (i := 142) (by decide +kernel) rfl
theorem tw_623 : Cond.selects RX2 yX2_become yX2_become ∈ z_TB := z_t3 (i := 143) (by decide +kernel) rfl
theorem tw_624 : Cond.code yX2_become cX2_become 6 none ∈ z_TB := z_t3 (i := 144) (by decide +kernel) rfl
theorem tw_625 : Cond.methodLink RX2 31 arraycopyName ∈ z_TB := z_t3 (i := 145) (by decide +kernel) rfl
theorem tw_626 : Cond.methodLink RL 122 yX7_worth ∈ z_TB := z_t3 (i := 146) (by decide +kernel) rfl
theorem tw_627 : Cond.instanceMethod yX7_worth ∈ z_TB := z_t3 (i := 147) (by decide +kernel) rfl
theorem tw_628 : Cond.selects RX7 yX7_worth yX7_worth ∈ z_TB := z_t3 (i := 148) (by decide +kernel) rfl
theorem tw_629 : Cond.code yX7_worth cX7_worth 3 (some .int) ∈ z_TB := z_t3 (i := 149) (by decide +kernel) rfl
theorem tw_630 : Cond.methodLink RX7 260 yX7_tellsNow ∈ z_TB := z_t3 (i := 150) (by decide +kernel) rfl
theorem tw_632 : Cond.instanceMethod yX7_tellsNow ∈ z_TB := z_t3 (i := 152) (by decide +kernel) rfl
theorem tw_633 : Cond.code yX7_tellsNow cX7_tellsNow 4 (some .int) ∈ z_TB := z_t3 (i := 153) (by decide +kernel) rfl
theorem tw_634 : Cond.methodLink RX7 349 yX7_tells ∈ z_TB := z_t3 (i := 154) (by decide +kernel) rfl
theorem tw_636 : Cond.instanceMethod yX7_tells ∈ z_TB := z_t3 (i := 156) (by decide +kernel) rfl
theorem tw_637 : Cond.code yX7_tells cX7_tells 5 (some .int) ∈ z_TB := z_t3 (i := 157) (by decide +kernel) rfl
theorem tw_638 : Cond.methodLink RX7 352 yX7_tellsByParts ∈ z_TB := z_t3 (i := 158) (by decide +kernel) rfl
theorem tw_640 : Cond.instanceMethod yX7_tellsByParts ∈ z_TB := z_t3 (i := 160) (by decide +kernel) rfl
theorem tw_641 : Cond.code yX7_tellsByParts cX7_tellsByParts 4 (some .int) ∈ z_TB := z_t3 (i := 161) (by decide +kernel) rfl
theorem tw_642 : Cond.methodLink RX7 368 yJ9_max_7cf53 ∈ z_TB := z_t3 (i := 162) (by decide +kernel) rfl
theorem tw_643 : Cond.methodLink RX7 376 yX7_shifted ∈ z_TB := z_t3 (i := 163) (by decide +kernel) rfl
theorem tw_644 : Cond.static yX7_shifted ∈ z_TB := z_t3 (i := 164) (by decide +kernel) rfl
theorem tw_645 : Cond.code yX7_shifted cX7_shifted 2 (some .int) ∈ z_TB := z_t3 (i := 165) (by decide +kernel) rfl
theorem tw_646 : Cond.methodLink RX7 379 yX7_hasPoint ∈ z_TB := z_t3 (i := 166) (by decide +kernel) rfl
theorem tw_647 : Cond.methodLink RX7 382 yX7_tellsAlone ∈ z_TB := z_t3 (i := 167) (by decide +kernel) rfl
theorem tw_649 : Cond.instanceMethod yX7_tellsAlone ∈ z_TB := z_t3 (i := 169) (by decide +kernel) rfl
theorem tw_650 : Cond.code yX7_tellsAlone cX7_tellsAlone 3 (some .int) ∈ z_TB := z_t3 (i := 170) (by decide +kernel) rfl
theorem tw_651 : Cond.methodLink RX7 308 yX7_priceOfAll ∈ z_TB := z_t3 (i := 171) (by decide +kernel) rfl
theorem tw_652 : Cond.static yX7_priceOfAll ∈ z_TB := z_t3 (i := 172) (by decide +kernel) rfl
theorem tw_653 : Cond.code yX7_priceOfAll cX7_priceOfAll 4 (some .int) ∈ z_TB := z_t3 (i := 173) (by decide +kernel) rfl
theorem tw_654 : Cond.methodLink RX7 387 yX1_countMet ∈ z_TB := z_t3 (i := 174) (by decide +kernel) rfl
theorem tw_655 : Cond.methodLink RX7 390 yX7_dearest ∈ z_TB := z_t3 (i := 175) (by decide +kernel) rfl
theorem tw_656 : Cond.static yX7_dearest ∈ z_TB := z_t3 (i := 176) (by decide +kernel) rfl
theorem tw_657 : Cond.code yX7_dearest cX7_dearest 4 (some .int) ∈ z_TB := z_t3 (i := 177) (by decide +kernel) rfl
theorem tw_658 : Cond.methodLink RL 126 yX7_best ∈ z_TB := z_t3 (i := 178) (by decide +kernel) rfl
theorem tw_659 : Cond.instanceMethod yX7_best ∈ z_TB := z_t3 (i := 179) (by decide +kernel) rfl
theorem tw_660 : Cond.selects RX7 yX7_best yX7_best ∈ z_TB := z_t3 (i := 180) (by decide +kernel) rfl
theorem tw_661 : Cond.code yX7_best cX7_best 9 (some .int) ∈ z_TB := z_t3 (i := 181) (by decide +kernel) rfl
theorem tw_662 : Cond.methodLink RL 130 yX7_ranked ∈ z_TB := z_t3 (i := 182) (by decide +kernel) rfl
theorem tw_663 : Cond.instanceMethod yX7_ranked ∈ z_TB := z_t3 (i := 183) (by decide +kernel) rfl
theorem tw_664 : Cond.selects RX7 yX7_ranked yX7_ranked ∈ z_TB := z_t3 (i := 184) (by decide +kernel) rfl
theorem tw_665 : Cond.code yX7_ranked cX7_ranked 6 (some .int) ∈ z_TB := z_t3 (i := 185) (by decide +kernel) rfl
theorem tw_666 : Cond.methodLink RX7 266 yX7_rankOf ∈ z_TB := z_t3 (i := 186) (by decide +kernel) rfl
theorem tw_668 : Cond.instanceMethod yX7_rankOf ∈ z_TB := z_t3 (i := 188) (by decide +kernel) rfl
theorem tw_669 : Cond.code yX7_rankOf cX7_rankOf 5 (some .int) ∈ z_TB := z_t3 (i := 189) (by decide +kernel) rfl
theorem tw_670 : Cond.methodLink RL 134 yX7_sums ∈ z_TB := z_t3 (i := 190) (by decide +kernel) rfl
theorem tw_671 : Cond.instanceMethod yX7_sums ∈ z_TB := z_t3 (i := 191) (by decide +kernel) rfl
theorem tw_672 : Cond.selects RX7 yX7_sums yX7_sums ∈ z_TB := z_t3 (i := 192) (by decide +kernel) rfl
theorem tw_673 : Cond.code yX7_sums cX7_sums 6 (some .int) ∈ z_TB := z_t3 (i := 193) (by decide +kernel) rfl
theorem tw_674 : Cond.methodLink RL 138 yX7_sheet ∈ z_TB := z_t3 (i := 194) (by decide +kernel) rfl
theorem tw_675 : Cond.instanceMethod yX7_sheet ∈ z_TB := z_t3 (i := 195) (by decide +kernel) rfl
theorem tw_676 : Cond.selects RX7 yX7_sheet yX7_sheet ∈ z_TB := z_t3 (i := 196) (by decide +kernel) rfl
theorem tw_677 : Cond.code yX7_sheet cX7_sheet 4 (some .int) ∈ z_TB := z_t3 (i := 197) (by decide +kernel) rfl
theorem tw_678 : Cond.methodLink RX7 269 yX7_isNoSheet ∈ z_TB := z_t3 (i := 198) (by decide +kernel) rfl
theorem tw_679 : Cond.static yX7_isNoSheet ∈ z_TB := z_t3 (i := 199) (by decide +kernel) rfl
theorem tw_680 : Cond.code yX7_isNoSheet cX7_isNoSheet 1 (some .boolean) ∈ z_TB := z_t3 (i := 200) (by decide +kernel) rfl
theorem tw_681 : Cond.methodLink RX7 272 yX3_become ∈ z_TB := z_t3 (i := 201) (by decide +kernel) rfl
theorem tw_682 : Cond.instanceMethod yX3_become ∈ z_TB := z_t3 (i := 202) (by decide +kernel) rfl
theorem tw_683 : Cond.selects RX3 yX3_become yX3_become ∈ z_TB := z_t3 (i := 203) (by decide +kernel) rfl
theorem tw_684 : Cond.code yX3_become cX3_become 3 none ∈ z_TB := z_t3 (i := 204) (by decide +kernel) rfl
theorem tw_685 : Cond.methodLink RX3 22 yJ7_fill_d0a16 ∈ z_TB := z_t3 (i := 205) (by decide +kernel) rfl
theorem tw_686 : Cond.methodLink RL 144 yX7_cell ∈ z_TB := z_t3 (i := 206) (by decide +kernel) rfl
theorem tw_687 : Cond.instanceMethod yX7_cell ∈ z_TB := z_t3 (i := 207) (by decide +kernel) rfl
theorem tw_688 : Cond.selects RX7 yX7_cell yX7_cell ∈ z_TB := z_t3 (i := 208) (by decide +kernel) rfl
theorem tw_689 : Cond.code yX7_cell cX7_cell 5 (some .int) ∈ z_TB := z_t3 (i := 209) (by decide +kernel) rfl
theorem tw_690 : Cond.methodLink RX7 278 yX3_put ∈ z_TB := z_t3 (i := 210) (by decide +kernel) rfl
theorem tw_691 : Cond.instanceMethod yX3_put ∈ z_TB := z_t3 (i := 211) (by decide +kernel) rfl
theorem tw_692 : Cond.selects RX3 yX3_put yX3_put ∈ z_TB := z_t3 (i := 212) (by decide +kernel) rfl
theorem tw_693 : Cond.code yX3_put cX3_put 4 (some .boolean) ∈ z_TB := z_t3 (i := 213) (by decide +kernel) rfl
theorem tw_694 : Cond.methodLink RL 149 yX7_read ∈ z_TB := z_t3 (i := 214) (by decide +kernel) rfl
theorem tw_695 : Cond.instanceMethod yX7_read ∈ z_TB := z_t3 (i := 215) (by decide +kernel) rfl
theorem tw_696 : Cond.selects RX7 yX7_read yX7_read ∈ z_TB := z_t3 (i := 216) (by decide +kernel) rfl
theorem tw_697 : Cond.code yX7_read cX7_read 4 (some .long) ∈ z_TB := z_t3 (i := 217) (by decide +kernel) rfl
theorem tw_698 : Cond.constantLong RX7 282 (-2) ∈ z_TB := z_t3 (i := 218) (by decide +kernel) rfl
theorem tw_699 : Cond.constantLong RX7 284 (-11) ∈ z_TB := z_t3 (i := 219) (by decide +kernel) rfl
theorem tw_700 : Cond.constantLong RX7 289 (-12) ∈ z_TB := z_t3 (i := 220) (by decide +kernel) rfl
theorem tw_701 : Cond.methodLink RL 154 yX7_packs ∈ z_TB := z_t3 (i := 221) (by decide +kernel) rfl
theorem tw_702 : Cond.instanceMethod yX7_packs ∈ z_TB := z_t3 (i := 222) (by decide +kernel) rfl
theorem tw_703 : Cond.selects RX7 yX7_packs yX7_packs ∈ z_TB := z_t3 (i := 223) (by decide +kernel) rfl
theorem tw_704 : Cond.code yX7_packs cX7_packs 7 (some .int) ∈ z_TB := z_t3 (i := 224) (by decide +kernel) rfl
theorem tw_705 : Cond.methodLink RX7 295 yX1_packedFrom ∈ z_TB := z_t3 (i := 225) (by decide +kernel) rfl
theorem tw_706 : Cond.instanceMethod yX1_packedFrom ∈ z_TB := z_t3 (i := 226) (by decide +kernel) rfl
theorem tw_707 : Cond.selects RX1 yX1_packedFrom yX1_packedFrom ∈ z_TB := z_t3 (i := 227) (by decide +kernel) rfl
theorem tw_708 : Cond.code yX1_packedFrom cX1_packedFrom 5 (some .long) ∈ z_TB := z_t3 (i := 228) (by decide +kernel) rfl
theorem tw_709 : Cond.methodLink RL 158 yX7_unpacks ∈ z_TB := z_t3 (i := 229) (by decide +kernel) rfl
theorem tw_710 : Cond.instanceMethod yX7_unpacks ∈ z_TB := z_t3 (i := 230) (by decide +kernel) rfl
theorem tw_711 : Cond.selects RX7 yX7_unpacks yX7_unpacks ∈ z_TB := z_t3 (i := 231) (by decide +kernel) rfl
theorem tw_712 : Cond.code yX7_unpacks cX7_unpacks 7 (some .int) ∈ z_TB := z_t3 (i := 232) (by decide +kernel) rfl
theorem tw_713 : Cond.methodLink RX7 299 yX3_packedAt ∈ z_TB := z_t3 (i := 233) (by decide +kernel) rfl
theorem tw_714 : Cond.instanceMethod yX3_packedAt ∈ z_TB := z_t3 (i := 234) (by decide +kernel) rfl
theorem tw_715 : Cond.selects RX3 yX3_packedAt yX3_packedAt ∈ z_TB := z_t3 (i := 235) (by decide +kernel) rfl
theorem tw_716 : Cond.code yX3_packedAt cX3_packedAt 2 (some .int) ∈ z_TB := z_t3 (i := 236) (by decide +kernel) rfl
theorem tw_717 : Cond.methodLink RL 162 yX7_freqs ∈ z_TB := z_t3 (i := 237) (by decide +kernel) rfl
theorem tw_718 : Cond.instanceMethod yX7_freqs ∈ z_TB := z_t3 (i := 238) (by decide +kernel) rfl
theorem tw_719 : Cond.selects RX7 yX7_freqs yX7_freqs ∈ z_TB := z_t3 (i := 239) (by decide +kernel) rfl
theorem tw_720 : Cond.code yX7_freqs cX7_freqs 4 (some .int) ∈ z_TB := z_t4 (i := 0) (by decide +kernel) rfl
theorem tw_721 : Cond.methodLink RL 166 yX7_image ∈ z_TB := z_t4 (i := 1) (by decide +kernel) rfl
theorem tw_722 : Cond.instanceMethod yX7_image ∈ z_TB := z_t4 (i := 2) (by decide +kernel) rfl
theorem tw_723 : Cond.selects RX7 yX7_image yX7_image ∈ z_TB := z_t4 (i := 3) (by decide +kernel) rfl
theorem tw_724 : Cond.code yX7_image cX7_image 1 (some .int) ∈ z_TB := z_t4 (i := 4) (by decide +kernel) rfl
theorem tw_725 : Cond.methodLink RX7 302 yX4_become ∈ z_TB := z_t4 (i := 5) (by decide +kernel) rfl
theorem tw_726 : Cond.instanceMethod yX4_become ∈ z_TB := z_t4 (i := 6) (by decide +kernel) rfl
theorem tw_727 : Cond.selects RX4 yX4_become yX4_become ∈ z_TB := z_t4 (i := 7) (by decide +kernel) rfl
theorem tw_728 : Cond.code yX4_become cX4_become 3 none ∈ z_TB := z_t4 (i := 8) (by decide +kernel) rfl
theorem tw_729 : Cond.methodLink RX4 32 arraycopyName ∈ z_TB := z_t4 (i := 9) (by decide +kernel) rfl
theorem tw_730 : Cond.methodLink RX4 38 yX1_become ∈ z_TB := z_t4 (i := 10) (by decide +kernel) rfl
theorem tw_731 : Cond.methodLink RX7 305 yX4_heldInAll ∈ z_TB := z_t4 (i := 11) (by decide +kernel) rfl
theorem tw_732 : Cond.instanceMethod yX4_heldInAll ∈ z_TB := z_t4 (i := 12) (by decide +kernel) rfl
theorem tw_733 : Cond.selects RX4 yX4_heldInAll yX4_heldInAll ∈ z_TB := z_t4 (i := 13) (by decide +kernel) rfl
theorem tw_734 : Cond.code yX4_heldInAll cX4_heldInAll 3 (some .int) ∈ z_TB := z_t4 (i := 14) (by decide +kernel) rfl
theorem tw_735 : Cond.methodLink RL 170 yX7_back ∈ z_TB := z_t4 (i := 15) (by decide +kernel) rfl
theorem tw_736 : Cond.instanceMethod yX7_back ∈ z_TB := z_t4 (i := 16) (by decide +kernel) rfl
theorem tw_737 : Cond.selects RX7 yX7_back yX7_back ∈ z_TB := z_t4 (i := 17) (by decide +kernel) rfl
theorem tw_738 : Cond.code yX7_back cX7_back 1 (some .int) ∈ z_TB := z_t4 (i := 18) (by decide +kernel) rfl
theorem tw_739 : Cond.methodLink RL 174 yX7_count ∈ z_TB := z_t4 (i := 19) (by decide +kernel) rfl
theorem tw_740 : Cond.instanceMethod yX7_count ∈ z_TB := z_t4 (i := 20) (by decide +kernel) rfl
theorem tw_741 : Cond.selects RX7 yX7_count yX7_count ∈ z_TB := z_t4 (i := 21) (by decide +kernel) rfl
theorem tw_742 : Cond.code yX7_count cX7_count 2 (some .int) ∈ z_TB := z_t4 (i := 22) (by decide +kernel) rfl
theorem tw_743 : Cond.classLink RL 10 RX8 ∈ z_TB := z_t4 (i := 23) (by decide +kernel) rfl
theorem tw_744 : Cond.instantiable RX8 39 ∈ z_TB := z_t4 (i := 24) (by decide +kernel) rfl
theorem tw_745 : Cond.methodLink RL 12 yX8_init ∈ z_TB := z_t4 (i := 25) (by decide +kernel) rfl
theorem tw_746 : Cond.instanceMethod yX8_init ∈ z_TB := z_t4 (i := 26) (by decide +kernel) rfl
theorem tw_747 : Cond.code yX8_init cX8_init 2 none ∈ z_TB := z_t4 (i := 27) (by decide +kernel) rfl
theorem tw_748 : Cond.methodLink RX8 1 objectInit ∈ z_TB := z_t4 (i := 28) (by decide +kernel) rfl
theorem tw_749 : Cond.fieldLink RX8 9 RX8 "price" "[I" ∈ z_TB := z_t4 (i := 29) (by decide +kernel) rfl
theorem tw_750 : Cond.fieldLink RX8 13 RX8 "sizes" "[I" ∈ z_TB := z_t4 (i := 30) (by decide +kernel) rfl
theorem tw_751 : Cond.fieldLink RX8 16 RX8 "sets" "[I" ∈ z_TB := z_t4 (i := 31) (by decide +kernel) rfl
theorem tw_752 : Cond.fieldLink RX8 19 RX8 "tallies" "[I" ∈ z_TB := z_t4 (i := 32) (by decide +kernel) rfl
theorem tw_753 : Cond.fieldLink RX8 22 RX8 "rules" "I" ∈ z_TB := z_t4 (i := 33) (by decide +kernel) rfl
theorem tw_754 : Cond.fieldLink RX8 26 RX8 "ruleHow" "[I" ∈ z_TB := z_t4 (i := 34) (by decide +kernel) rfl
theorem tw_755 : Cond.fieldLink RX8 29 RX8 "ruleA" "[I" ∈ z_TB := z_t4 (i := 35) (by decide +kernel) rfl
theorem tw_756 : Cond.fieldLink RX8 32 RX8 "ruleB" "[I" ∈ z_TB := z_t4 (i := 36) (by decide +kernel) rfl
theorem tw_757 : Cond.fieldLink RX8 35 RX8 "ruleC" "[I" ∈ z_TB := z_t4 (i := 37) (by decide +kernel) rfl
theorem tw_758 : Cond.fieldLink RX8 38 RX8 "rulePrice" "[I" ∈ z_TB := z_t4 (i := 38) (by decide +kernel) rfl
theorem tw_759 : Cond.fieldLink RX8 101 RX8 "acts" "I" ∈ z_TB := z_t4 (i := 39) (by decide +kernel) rfl
theorem tw_760 : Cond.fieldLink RX8 41 RX8 "actSort" "[I" ∈ z_TB := z_t4 (i := 40) (by decide +kernel) rfl
theorem tw_761 : Cond.fieldLink RX8 44 RX8 "actOf" "[I" ∈ z_TB := z_t4 (i := 41) (by decide +kernel) rfl
theorem tw_762 : Cond.fieldLink RX8 47 RX8 "actV" "[I" ∈ z_TB := z_t4 (i := 42) (by decide +kernel) rfl
theorem tw_763 : Cond.fieldLink RX8 50 RX8 "goes" "[Z" ∈ z_TB := z_t4 (i := 43) (by decide +kernel) rfl
theorem tw_764 : Cond.fieldLink RX8 54 RX8 "wanted" "[I" ∈ z_TB := z_t4 (i := 44) (by decide +kernel) rfl
theorem tw_765 : Cond.fieldLink RX8 150 RX8 "wantedMany" "I" ∈ z_TB := z_t4 (i := 45) (by decide +kernel) rfl
theorem tw_766 : Cond.fieldLink RX8 57 RX8 "least" "[I" ∈ z_TB := z_t4 (i := 46) (by decide +kernel) rfl
theorem tw_767 : Cond.fieldLink RX8 175 RX8 "leastMany" "I" ∈ z_TB := z_t4 (i := 47) (by decide +kernel) rfl
theorem tw_768 : Cond.fieldLink RX8 60 RX8 "row" "[I" ∈ z_TB := z_t4 (i := 48) (by decide +kernel) rfl
theorem tw_769 : Cond.fieldLink RX8 190 RX8 "nodes" "I" ∈ z_TB := z_t4 (i := 49) (by decide +kernel) rfl
theorem tw_770 : Cond.fieldLink RX8 208 RX8 "deepest" "I" ∈ z_TB := z_t4 (i := 50) (by decide +kernel) rfl
theorem tw_771 : Cond.fieldLink RX8 211 RX8 "barren" "I" ∈ z_TB := z_t4 (i := 51) (by decide +kernel) rfl
theorem tw_772 : Cond.fieldLink RX8 193 RX8 "soughtNode" "I" ∈ z_TB := z_t4 (i := 52) (by decide +kernel) rfl
theorem tw_773 : Cond.fieldLink RX8 196 RX8 "soughtPoint" "I" ∈ z_TB := z_t4 (i := 53) (by decide +kernel) rfl
theorem tw_774 : Cond.fieldLink RX8 199 RX8 "soughtMany" "I" ∈ z_TB := z_t4 (i := 54) (by decide +kernel) rfl
theorem tw_775 : Cond.fieldLink RX8 202 RX8 "soughtDepth" "I" ∈ z_TB := z_t4 (i := 55) (by decide +kernel) rfl
theorem tw_776 : Cond.fieldLink RX8 205 RX8 "soughtHad" "I" ∈ z_TB := z_t4 (i := 56) (by decide +kernel) rfl
theorem tw_777 : Cond.fieldLink RX8 63 RX8 "isCommon" "[Z" ∈ z_TB := z_t4 (i := 57) (by decide +kernel) rfl
theorem tw_778 : Cond.fieldLink RX8 66 RX8 "worths" "[I" ∈ z_TB := z_t4 (i := 58) (by decide +kernel) rfl
theorem tw_779 : Cond.fieldLink RX8 69 RX8 "sorts" "[I" ∈ z_TB := z_t4 (i := 59) (by decide +kernel) rfl
theorem tw_780 : Cond.fieldLink RX8 72 RX8 "long0" "[I" ∈ z_TB := z_t4 (i := 60) (by decide +kernel) rfl
theorem tw_781 : Cond.fieldLink RX8 75 RX8 "cells" "[J" ∈ z_TB := z_t4 (i := 61) (by decide +kernel) rfl
theorem tw_782 : Cond.fieldLink RX8 293 RX8 "isKept" "Z" ∈ z_TB := z_t4 (i := 62) (by decide +kernel) rfl
theorem tw_783 : Cond.fieldLink RX8 79 RX8 "keptPrice" "[I" ∈ z_TB := z_t4 (i := 63) (by decide +kernel) rfl
theorem tw_784 : Cond.fieldLink RX8 82 RX8 "keptSizes" "[I" ∈ z_TB := z_t4 (i := 64) (by decide +kernel) rfl
theorem tw_785 : Cond.fieldLink RX8 85 RX8 "keptSets" "[I" ∈ z_TB := z_t4 (i := 65) (by decide +kernel) rfl
theorem tw_786 : Cond.fieldLink RX8 88 RX8 "keptTallies" "[I" ∈ z_TB := z_t4 (i := 66) (by decide +kernel) rfl
theorem tw_787 : Cond.fieldLink RX8 301 RX8 "keptRules" "I" ∈ z_TB := z_t4 (i := 67) (by decide +kernel) rfl
theorem tw_867 : Cond.arrayClass .boolean ∈ z_TB := z_t4 (i := 147) (by decide +kernel) rfl
theorem tw_868 : Cond.methodLink RL 17 yX8_price ∈ z_TB := z_t4 (i := 148) (by decide +kernel) rfl
theorem tw_869 : Cond.instanceMethod yX8_price ∈ z_TB := z_t4 (i := 149) (by decide +kernel) rfl
theorem tw_870 : Cond.selects RX8 yX8_price yX8_price ∈ z_TB := z_t4 (i := 150) (by decide +kernel) rfl
theorem tw_871 : Cond.code yX8_price cX8_price 4 (some .int) ∈ z_TB := z_t4 (i := 151) (by decide +kernel) rfl
theorem tw_872 : Cond.methodLink RX8 104 yX8_isPoint ∈ z_TB := z_t4 (i := 152) (by decide +kernel) rfl
theorem tw_873 : Cond.static yX8_isPoint ∈ z_TB := z_t4 (i := 153) (by decide +kernel) rfl
theorem tw_874 : Cond.code yX8_isPoint cX8_isPoint 1 (some .boolean) ∈ z_TB := z_t4 (i := 154) (by decide +kernel) rfl
theorem tw_875 : Cond.constantLong RX8 91 (11) ∈ z_TB := z_t4 (i := 155) (by decide +kernel) rfl
theorem tw_876 : Cond.methodLink RX8 93 yX8_in ∈ z_TB := z_t4 (i := 156) (by decide +kernel) rfl
theorem tw_877 : Cond.static yX8_in ∈ z_TB := z_t4 (i := 157) (by decide +kernel) rfl
theorem tw_878 : Cond.code yX8_in cX8_in 6 (some .boolean) ∈ z_TB := z_t4 (i := 158) (by decide +kernel) rfl
theorem tw_879 : Cond.constantLong RX8 108 (99) ∈ z_TB := z_t4 (i := 159) (by decide +kernel) rfl
theorem tw_880 : Cond.methodLink RX8 110 yX8_remembers ∈ z_TB := z_t4 (i := 160) (by decide +kernel) rfl
theorem tw_882 : Cond.instanceMethod yX8_remembers ∈ z_TB := z_t4 (i := 162) (by decide +kernel) rfl
theorem tw_883 : Cond.code yX8_remembers cX8_remembers 5 none ∈ z_TB := z_t4 (i := 163) (by decide +kernel) rfl
theorem tw_884 : Cond.methodLink RL 22 yX8_priceOf ∈ z_TB := z_t4 (i := 164) (by decide +kernel) rfl
theorem tw_885 : Cond.instanceMethod yX8_priceOf ∈ z_TB := z_t4 (i := 165) (by decide +kernel) rfl
theorem tw_886 : Cond.selects RX8 yX8_priceOf yX8_priceOf ∈ z_TB := z_t4 (i := 166) (by decide +kernel) rfl
theorem tw_887 : Cond.code yX8_priceOf cX8_priceOf 2 (some .int) ∈ z_TB := z_t4 (i := 167) (by decide +kernel) rfl
theorem tw_888 : Cond.methodLink RL 26 yX8_tell ∈ z_TB := z_t4 (i := 168) (by decide +kernel) rfl
theorem tw_889 : Cond.instanceMethod yX8_tell ∈ z_TB := z_t4 (i := 169) (by decide +kernel) rfl
theorem tw_890 : Cond.selects RX8 yX8_tell yX8_tell ∈ z_TB := z_t4 (i := 170) (by decide +kernel) rfl
theorem tw_891 : Cond.code yX8_tell cX8_tell 5 (some .int) ∈ z_TB := z_t4 (i := 171) (by decide +kernel) rfl
theorem tw_892 : Cond.methodLink RX8 125 yX8_isFamily ∈ z_TB := z_t4 (i := 172) (by decide +kernel) rfl
theorem tw_893 : Cond.static yX8_isFamily ∈ z_TB := z_t4 (i := 173) (by decide +kernel) rfl
theorem tw_894 : Cond.code yX8_isFamily cX8_isFamily 1 (some .boolean) ∈ z_TB := z_t4 (i := 174) (by decide +kernel) rfl
theorem tw_895 : Cond.constantLong RX8 99 (3) ∈ z_TB := z_t4 (i := 175) (by decide +kernel) rfl
theorem tw_896 : Cond.methodLink RX8 128 yX8_isSet ∈ z_TB := z_t4 (i := 176) (by decide +kernel) rfl
theorem tw_897 : Cond.static yX8_isSet ∈ z_TB := z_t4 (i := 177) (by decide +kernel) rfl
theorem tw_898 : Cond.code yX8_isSet cX8_isSet 1 (some .boolean) ∈ z_TB := z_t4 (i := 178) (by decide +kernel) rfl
theorem tw_899 : Cond.constantLong RX8 97 (4095) ∈ z_TB := z_t4 (i := 179) (by decide +kernel) rfl
theorem tw_900 : Cond.methodLink RX8 131 yX8_tallyOf ∈ z_TB := z_t4 (i := 180) (by decide +kernel) rfl
theorem tw_902 : Cond.instanceMethod yX8_tallyOf ∈ z_TB := z_t4 (i := 182) (by decide +kernel) rfl
theorem tw_903 : Cond.code yX8_tallyOf cX8_tallyOf 4 (some .int) ∈ z_TB := z_t4 (i := 183) (by decide +kernel) rfl
theorem tw_904 : Cond.methodLink RX8 118 yX8_placeOf ∈ z_TB := z_t4 (i := 184) (by decide +kernel) rfl
theorem tw_906 : Cond.instanceMethod yX8_placeOf ∈ z_TB := z_t4 (i := 186) (by decide +kernel) rfl
theorem tw_907 : Cond.code yX8_placeOf cX8_placeOf 4 (some .int) ∈ z_TB := z_t4 (i := 187) (by decide +kernel) rfl
theorem tw_908 : Cond.methodLink RX8 114 yX8_setOf ∈ z_TB := z_t4 (i := 188) (by decide +kernel) rfl
theorem tw_910 : Cond.instanceMethod yX8_setOf ∈ z_TB := z_t4 (i := 190) (by decide +kernel) rfl
theorem tw_911 : Cond.code yX8_setOf cX8_setOf 3 (some .int) ∈ z_TB := z_t4 (i := 191) (by decide +kernel) rfl
theorem tw_912 : Cond.methodLink RX8 134 yX8_tells ∈ z_TB := z_t4 (i := 192) (by decide +kernel) rfl
theorem tw_914 : Cond.instanceMethod yX8_tells ∈ z_TB := z_t4 (i := 194) (by decide +kernel) rfl
theorem tw_915 : Cond.code yX8_tells cX8_tells 4 (some .int) ∈ z_TB := z_t4 (i := 195) (by decide +kernel) rfl
theorem tw_916 : Cond.methodLink RL 30 yX8_take ∈ z_TB := z_t4 (i := 196) (by decide +kernel) rfl
theorem tw_917 : Cond.instanceMethod yX8_take ∈ z_TB := z_t4 (i := 197) (by decide +kernel) rfl
theorem tw_918 : Cond.selects RX8 yX8_take yX8_take ∈ z_TB := z_t4 (i := 198) (by decide +kernel) rfl
theorem tw_919 : Cond.code yX8_take cX8_take 3 (some .int) ∈ z_TB := z_t4 (i := 199) (by decide +kernel) rfl
theorem tw_920 : Cond.methodLink RX8 137 yX8_takes ∈ z_TB := z_t4 (i := 200) (by decide +kernel) rfl
theorem tw_922 : Cond.instanceMethod yX8_takes ∈ z_TB := z_t4 (i := 202) (by decide +kernel) rfl
theorem tw_923 : Cond.code yX8_takes cX8_takes 5 (some .int) ∈ z_TB := z_t4 (i := 203) (by decide +kernel) rfl
theorem tw_924 : Cond.methodLink RX8 121 yX8_drops ∈ z_TB := z_t4 (i := 204) (by decide +kernel) rfl
theorem tw_926 : Cond.instanceMethod yX8_drops ∈ z_TB := z_t4 (i := 206) (by decide +kernel) rfl
theorem tw_927 : Cond.code yX8_drops cX8_drops 4 none ∈ z_TB := z_t4 (i := 207) (by decide +kernel) rfl
theorem tw_928 : Cond.methodLink RL 34 yX8_tally ∈ z_TB := z_t4 (i := 208) (by decide +kernel) rfl
theorem tw_929 : Cond.instanceMethod yX8_tally ∈ z_TB := z_t4 (i := 209) (by decide +kernel) rfl
theorem tw_930 : Cond.selects RX8 yX8_tally yX8_tally ∈ z_TB := z_t4 (i := 210) (by decide +kernel) rfl
theorem tw_931 : Cond.code yX8_tally cX8_tally 3 (some .int) ∈ z_TB := z_t4 (i := 211) (by decide +kernel) rfl
theorem tw_932 : Cond.methodLink RL 38 yX8_at ∈ z_TB := z_t4 (i := 212) (by decide +kernel) rfl
theorem tw_933 : Cond.instanceMethod yX8_at ∈ z_TB := z_t4 (i := 213) (by decide +kernel) rfl
theorem tw_934 : Cond.selects RX8 yX8_at yX8_at ∈ z_TB := z_t4 (i := 214) (by decide +kernel) rfl
theorem tw_935 : Cond.code yX8_at cX8_at 3 (some .int) ∈ z_TB := z_t4 (i := 215) (by decide +kernel) rfl
theorem tw_936 : Cond.methodLink RL 42 yX8_size ∈ z_TB := z_t4 (i := 216) (by decide +kernel) rfl
theorem tw_937 : Cond.instanceMethod yX8_size ∈ z_TB := z_t4 (i := 217) (by decide +kernel) rfl
theorem tw_938 : Cond.selects RX8 yX8_size yX8_size ∈ z_TB := z_t4 (i := 218) (by decide +kernel) rfl
theorem tw_939 : Cond.code yX8_size cX8_size 2 (some .int) ∈ z_TB := z_t4 (i := 219) (by decide +kernel) rfl
theorem tw_940 : Cond.methodLink RL 46 yX8_wipe ∈ z_TB := z_t4 (i := 220) (by decide +kernel) rfl
theorem tw_941 : Cond.instanceMethod yX8_wipe ∈ z_TB := z_t4 (i := 221) (by decide +kernel) rfl
theorem tw_942 : Cond.selects RX8 yX8_wipe yX8_wipe ∈ z_TB := z_t4 (i := 222) (by decide +kernel) rfl
theorem tw_943 : Cond.code yX8_wipe cX8_wipe 3 (some .int) ∈ z_TB := z_t4 (i := 223) (by decide +kernel) rfl
theorem tw_944 : Cond.methodLink RL 50 yX8_copy ∈ z_TB := z_t4 (i := 224) (by decide +kernel) rfl
theorem tw_945 : Cond.instanceMethod yX8_copy ∈ z_TB := z_t4 (i := 225) (by decide +kernel) rfl
theorem tw_946 : Cond.selects RX8 yX8_copy yX8_copy ∈ z_TB := z_t4 (i := 226) (by decide +kernel) rfl
theorem tw_947 : Cond.code yX8_copy cX8_copy 4 (some .int) ∈ z_TB := z_t4 (i := 227) (by decide +kernel) rfl
theorem tw_948 : Cond.methodLink RL 55 yX8_undo ∈ z_TB := z_t4 (i := 228) (by decide +kernel) rfl
theorem tw_949 : Cond.instanceMethod yX8_undo ∈ z_TB := z_t4 (i := 229) (by decide +kernel) rfl
theorem tw_950 : Cond.selects RX8 yX8_undo yX8_undo ∈ z_TB := z_t4 (i := 230) (by decide +kernel) rfl
theorem tw_951 : Cond.code yX8_undo cX8_undo 3 (some .int) ∈ z_TB := z_t4 (i := 231) (by decide +kernel) rfl
theorem tw_952 : Cond.methodLink RL 59 yX8_often ∈ z_TB := z_t4 (i := 232) (by decide +kernel) rfl
theorem tw_953 : Cond.instanceMethod yX8_often ∈ z_TB := z_t4 (i := 233) (by decide +kernel) rfl
theorem tw_954 : Cond.selects RX8 yX8_often yX8_often ∈ z_TB := z_t4 (i := 234) (by decide +kernel) rfl
theorem tw_955 : Cond.code yX8_often cX8_often 3 (some .int) ∈ z_TB := z_t4 (i := 235) (by decide +kernel) rfl
theorem tw_956 : Cond.methodLink RX8 140 yX8_oftenIn ∈ z_TB := z_t4 (i := 236) (by decide +kernel) rfl
theorem tw_958 : Cond.instanceMethod yX8_oftenIn ∈ z_TB := z_t4 (i := 238) (by decide +kernel) rfl
theorem tw_959 : Cond.code yX8_oftenIn cX8_oftenIn 5 (some .int) ∈ z_TB := z_t4 (i := 239) (by decide +kernel) rfl
theorem tw_960 : Cond.methodLink RL 63 yX8_top ∈ z_TB := z_t5 (i := 0) (by decide +kernel) rfl
theorem tw_961 : Cond.instanceMethod yX8_top ∈ z_TB := z_t5 (i := 1) (by decide +kernel) rfl
theorem tw_962 : Cond.selects RX8 yX8_top yX8_top ∈ z_TB := z_t5 (i := 2) (by decide +kernel) rfl
theorem tw_963 : Cond.code yX8_top cX8_top 6 (some .int) ∈ z_TB := z_t5 (i := 3) (by decide +kernel) rfl
theorem tw_964 : Cond.methodLink RL 67 yX8_isSimple ∈ z_TB := z_t5 (i := 4) (by decide +kernel) rfl
theorem tw_965 : Cond.instanceMethod yX8_isSimple ∈ z_TB := z_t5 (i := 5) (by decide +kernel) rfl
theorem tw_966 : Cond.selects RX8 yX8_isSimple yX8_isSimple ∈ z_TB := z_t5 (i := 6) (by decide +kernel) rfl
theorem tw_967 : Cond.code yX8_isSimple cX8_isSimple 3 (some .int) ∈ z_TB := z_t5 (i := 7) (by decide +kernel) rfl
theorem tw_968 : Cond.methodLink RX8 147 yX8_hasPart ∈ z_TB := z_t5 (i := 8) (by decide +kernel) rfl
theorem tw_970 : Cond.instanceMethod yX8_hasPart ∈ z_TB := z_t5 (i := 10) (by decide +kernel) rfl
theorem tw_971 : Cond.code yX8_hasPart cX8_hasPart 4 (some .boolean) ∈ z_TB := z_t5 (i := 11) (by decide +kernel) rfl
theorem tw_972 : Cond.methodLink RX8 143 yX8_isPart ∈ z_TB := z_t5 (i := 12) (by decide +kernel) rfl
theorem tw_973 : Cond.static yX8_isPart ∈ z_TB := z_t5 (i := 13) (by decide +kernel) rfl
theorem tw_974 : Cond.code yX8_isPart cX8_isPart 2 (some .boolean) ∈ z_TB := z_t5 (i := 14) (by decide +kernel) rfl
theorem tw_975 : Cond.methodLink RL 71 yX8_lean ∈ z_TB := z_t5 (i := 15) (by decide +kernel) rfl
theorem tw_976 : Cond.instanceMethod yX8_lean ∈ z_TB := z_t5 (i := 16) (by decide +kernel) rfl
theorem tw_977 : Cond.selects RX8 yX8_lean yX8_lean ∈ z_TB := z_t5 (i := 17) (by decide +kernel) rfl
theorem tw_978 : Cond.code yX8_lean cX8_lean 4 (some .int) ∈ z_TB := z_t5 (i := 18) (by decide +kernel) rfl
theorem tw_979 : Cond.methodLink RL 76 yX8_test ∈ z_TB := z_t5 (i := 19) (by decide +kernel) rfl
theorem tw_980 : Cond.instanceMethod yX8_test ∈ z_TB := z_t5 (i := 20) (by decide +kernel) rfl
theorem tw_981 : Cond.selects RX8 yX8_test yX8_test ∈ z_TB := z_t5 (i := 21) (by decide +kernel) rfl
theorem tw_982 : Cond.code yX8_test cX8_test 4 (some .int) ∈ z_TB := z_t5 (i := 22) (by decide +kernel) rfl
theorem tw_983 : Cond.methodLink RX8 166 yX8_isTest ∈ z_TB := z_t5 (i := 23) (by decide +kernel) rfl
theorem tw_984 : Cond.static yX8_isTest ∈ z_TB := z_t5 (i := 24) (by decide +kernel) rfl
theorem tw_985 : Cond.code yX8_isTest cX8_isTest 1 (some .boolean) ∈ z_TB := z_t5 (i := 25) (by decide +kernel) rfl
theorem tw_986 : Cond.constantLong RX8 164 (5) ∈ z_TB := z_t5 (i := 26) (by decide +kernel) rfl
theorem tw_987 : Cond.methodLink RX8 169 yX8_does ∈ z_TB := z_t5 (i := 27) (by decide +kernel) rfl
theorem tw_989 : Cond.instanceMethod yX8_does ∈ z_TB := z_t5 (i := 29) (by decide +kernel) rfl
theorem tw_990 : Cond.code yX8_does cX8_does 7 (some .boolean) ∈ z_TB := z_t5 (i := 30) (by decide +kernel) rfl
theorem tw_991 : Cond.methodLink RX8 153 yX8_wants ∈ z_TB := z_t5 (i := 31) (by decide +kernel) rfl
theorem tw_993 : Cond.instanceMethod yX8_wants ∈ z_TB := z_t5 (i := 33) (by decide +kernel) rfl
theorem tw_994 : Cond.code yX8_wants cX8_wants 3 none ∈ z_TB := z_t5 (i := 34) (by decide +kernel) rfl
theorem tw_995 : Cond.methodLink RX8 157 yX8_hits ∈ z_TB := z_t5 (i := 35) (by decide +kernel) rfl
theorem tw_997 : Cond.instanceMethod yX8_hits ∈ z_TB := z_t5 (i := 37) (by decide +kernel) rfl
theorem tw_998 : Cond.code yX8_hits cX8_hits 5 (some .int) ∈ z_TB := z_t5 (i := 38) (by decide +kernel) rfl
theorem tw_999 : Cond.methodLink RX8 161 yX8_many ∈ z_TB := z_t5 (i := 39) (by decide +kernel) rfl
theorem tw_1000 : Cond.static yX8_many ∈ z_TB := z_t5 (i := 40) (by decide +kernel) rfl
theorem tw_1001 : Cond.code yX8_many cX8_many 3 (some .int) ∈ z_TB := z_t5 (i := 41) (by decide +kernel) rfl
theorem tw_1002 : Cond.methodLink RL 81 yX8_counted ∈ z_TB := z_t5 (i := 42) (by decide +kernel) rfl
theorem tw_1003 : Cond.instanceMethod yX8_counted ∈ z_TB := z_t5 (i := 43) (by decide +kernel) rfl
theorem tw_1004 : Cond.selects RX8 yX8_counted yX8_counted ∈ z_TB := z_t5 (i := 44) (by decide +kernel) rfl
theorem tw_1005 : Cond.code yX8_counted cX8_counted 7 (some .int) ∈ z_TB := z_t5 (i := 45) (by decide +kernel) rfl
theorem tw_1006 : Cond.constantLong RX8 173 (12) ∈ z_TB := z_t5 (i := 46) (by decide +kernel) rfl
theorem tw_1007 : Cond.methodLink RL 85 yX8_dual ∈ z_TB := z_t5 (i := 47) (by decide +kernel) rfl
theorem tw_1008 : Cond.instanceMethod yX8_dual ∈ z_TB := z_t5 (i := 48) (by decide +kernel) rfl
theorem tw_1009 : Cond.selects RX8 yX8_dual yX8_dual ∈ z_TB := z_t5 (i := 49) (by decide +kernel) rfl
theorem tw_1010 : Cond.code yX8_dual cX8_dual 3 (some .int) ∈ z_TB := z_t5 (i := 50) (by decide +kernel) rfl
theorem tw_1011 : Cond.methodLink RX8 181 yX8_findsDual ∈ z_TB := z_t5 (i := 51) (by decide +kernel) rfl
theorem tw_1013 : Cond.instanceMethod yX8_findsDual ∈ z_TB := z_t5 (i := 53) (by decide +kernel) rfl
theorem tw_1014 : Cond.code yX8_findsDual cX8_findsDual 2 none ∈ z_TB := z_t5 (i := 54) (by decide +kernel) rfl
theorem tw_1015 : Cond.methodLink RX8 178 yX8_findsLeast ∈ z_TB := z_t5 (i := 55) (by decide +kernel) rfl
theorem tw_1017 : Cond.instanceMethod yX8_findsLeast ∈ z_TB := z_t5 (i := 57) (by decide +kernel) rfl
theorem tw_1018 : Cond.code yX8_findsLeast cX8_findsLeast 2 none ∈ z_TB := z_t5 (i := 58) (by decide +kernel) rfl
theorem tw_1019 : Cond.methodLink RX8 184 yX8_leastAt ∈ z_TB := z_t5 (i := 59) (by decide +kernel) rfl
theorem tw_1021 : Cond.instanceMethod yX8_leastAt ∈ z_TB := z_t5 (i := 61) (by decide +kernel) rfl
theorem tw_1022 : Cond.code yX8_leastAt cX8_leastAt 2 (some .int) ∈ z_TB := z_t5 (i := 62) (by decide +kernel) rfl
theorem tw_1023 : Cond.methodLink RL 89 yX8_into ∈ z_TB := z_t5 (i := 63) (by decide +kernel) rfl
theorem tw_1024 : Cond.instanceMethod yX8_into ∈ z_TB := z_t5 (i := 64) (by decide +kernel) rfl
theorem tw_1025 : Cond.selects RX8 yX8_into yX8_into ∈ z_TB := z_t5 (i := 65) (by decide +kernel) rfl
theorem tw_1026 : Cond.code yX8_into cX8_into 4 (some .int) ∈ z_TB := z_t5 (i := 66) (by decide +kernel) rfl
theorem tw_1027 : Cond.methodLink RL 93 yX8_verdict ∈ z_TB := z_t5 (i := 67) (by decide +kernel) rfl
theorem tw_1028 : Cond.instanceMethod yX8_verdict ∈ z_TB := z_t5 (i := 68) (by decide +kernel) rfl
theorem tw_1029 : Cond.selects RX8 yX8_verdict yX8_verdict ∈ z_TB := z_t5 (i := 69) (by decide +kernel) rfl
theorem tw_1030 : Cond.code yX8_verdict cX8_verdict 6 (some .int) ∈ z_TB := z_t5 (i := 70) (by decide +kernel) rfl
theorem tw_1031 : Cond.methodLink RL 97 yX8_tree ∈ z_TB := z_t5 (i := 71) (by decide +kernel) rfl
theorem tw_1032 : Cond.instanceMethod yX8_tree ∈ z_TB := z_t5 (i := 72) (by decide +kernel) rfl
theorem tw_1033 : Cond.selects RX8 yX8_tree yX8_tree ∈ z_TB := z_t5 (i := 73) (by decide +kernel) rfl
theorem tw_1034 : Cond.code yX8_tree cX8_tree 3 (some .int) ∈ z_TB := z_t5 (i := 74) (by decide +kernel) rfl
theorem tw_1035 : Cond.constantLong RX8 223 (2) ∈ z_TB := z_t5 (i := 75) (by decide +kernel) rfl
theorem tw_1036 : Cond.methodLink RX8 225 yX8_findsTree ∈ z_TB := z_t5 (i := 76) (by decide +kernel) rfl
theorem tw_1038 : Cond.instanceMethod yX8_findsTree ∈ z_TB := z_t5 (i := 78) (by decide +kernel) rfl
theorem tw_1039 : Cond.code yX8_findsTree cX8_findsTree 4 none ∈ z_TB := z_t5 (i := 79) (by decide +kernel) rfl
theorem tw_1040 : Cond.methodLink RX8 220 yX8_thins ∈ z_TB := z_t5 (i := 80) (by decide +kernel) rfl
theorem tw_1042 : Cond.instanceMethod yX8_thins ∈ z_TB := z_t5 (i := 82) (by decide +kernel) rfl
theorem tw_1043 : Cond.code yX8_thins cX8_thins 9 (some .int) ∈ z_TB := z_t5 (i := 83) (by decide +kernel) rfl
theorem tw_1044 : Cond.methodLink RX8 217 yX8_grows ∈ z_TB := z_t5 (i := 84) (by decide +kernel) rfl
theorem tw_1046 : Cond.instanceMethod yX8_grows ∈ z_TB := z_t5 (i := 86) (by decide +kernel) rfl
theorem tw_1047 : Cond.code yX8_grows cX8_grows 9 none ∈ z_TB := z_t5 (i := 87) (by decide +kernel) rfl
theorem tw_1048 : Cond.methodLink RX8 187 yX8_topOf ∈ z_TB := z_t5 (i := 88) (by decide +kernel) rfl
theorem tw_1050 : Cond.instanceMethod yX8_topOf ∈ z_TB := z_t5 (i := 90) (by decide +kernel) rfl
theorem tw_1051 : Cond.code yX8_topOf cX8_topOf 8 (some .int) ∈ z_TB := z_t5 (i := 91) (by decide +kernel) rfl
theorem tw_1052 : Cond.methodLink RX8 214 yX8_has ∈ z_TB := z_t5 (i := 92) (by decide +kernel) rfl
theorem tw_1053 : Cond.static yX8_has ∈ z_TB := z_t5 (i := 93) (by decide +kernel) rfl
theorem tw_1054 : Cond.code yX8_has cX8_has 2 (some .boolean) ∈ z_TB := z_t5 (i := 94) (by decide +kernel) rfl
theorem tw_1055 : Cond.methodLink RL 101 yX8_node ∈ z_TB := z_t5 (i := 95) (by decide +kernel) rfl
theorem tw_1056 : Cond.instanceMethod yX8_node ∈ z_TB := z_t5 (i := 96) (by decide +kernel) rfl
theorem tw_1057 : Cond.selects RX8 yX8_node yX8_node ∈ z_TB := z_t5 (i := 97) (by decide +kernel) rfl
theorem tw_1058 : Cond.code yX8_node cX8_node 4 (some .int) ∈ z_TB := z_t5 (i := 98) (by decide +kernel) rfl
theorem tw_1059 : Cond.methodLink RL 105 yX8_keys ∈ z_TB := z_t5 (i := 99) (by decide +kernel) rfl
theorem tw_1060 : Cond.instanceMethod yX8_keys ∈ z_TB := z_t5 (i := 100) (by decide +kernel) rfl
theorem tw_1061 : Cond.selects RX8 yX8_keys yX8_keys ∈ z_TB := z_t5 (i := 101) (by decide +kernel) rfl
theorem tw_1062 : Cond.code yX8_keys cX8_keys 5 (some .int) ∈ z_TB := z_t5 (i := 102) (by decide +kernel) rfl
theorem tw_1063 : Cond.methodLink RL 109 yX8_support ∈ z_TB := z_t5 (i := 103) (by decide +kernel) rfl
theorem tw_1064 : Cond.instanceMethod yX8_support ∈ z_TB := z_t5 (i := 104) (by decide +kernel) rfl
theorem tw_1065 : Cond.selects RX8 yX8_support yX8_support ∈ z_TB := z_t5 (i := 105) (by decide +kernel) rfl
theorem tw_1066 : Cond.code yX8_support cX8_support 3 (some .int) ∈ z_TB := z_t5 (i := 106) (by decide +kernel) rfl
theorem tw_1067 : Cond.methodLink RX8 228 yX8_supportOf ∈ z_TB := z_t5 (i := 107) (by decide +kernel) rfl
theorem tw_1069 : Cond.instanceMethod yX8_supportOf ∈ z_TB := z_t5 (i := 109) (by decide +kernel) rfl
theorem tw_1070 : Cond.code yX8_supportOf cX8_supportOf 5 (some .int) ∈ z_TB := z_t5 (i := 110) (by decide +kernel) rfl
theorem tw_1071 : Cond.methodLink RL 113 yX8_border ∈ z_TB := z_t5 (i := 111) (by decide +kernel) rfl
theorem tw_1072 : Cond.instanceMethod yX8_border ∈ z_TB := z_t5 (i := 112) (by decide +kernel) rfl
theorem tw_1073 : Cond.selects RX8 yX8_border yX8_border ∈ z_TB := z_t5 (i := 113) (by decide +kernel) rfl
theorem tw_1074 : Cond.code yX8_border cX8_border 6 (some .int) ∈ z_TB := z_t5 (i := 114) (by decide +kernel) rfl
theorem tw_1075 : Cond.constantLong RX8 231 (4000) ∈ z_TB := z_t5 (i := 115) (by decide +kernel) rfl
theorem tw_1076 : Cond.methodLink RX8 233 yX8_isBorder ∈ z_TB := z_t5 (i := 116) (by decide +kernel) rfl
theorem tw_1078 : Cond.instanceMethod yX8_isBorder ∈ z_TB := z_t5 (i := 118) (by decide +kernel) rfl
theorem tw_1079 : Cond.code yX8_isBorder cX8_isBorder 5 (some .boolean) ∈ z_TB := z_t5 (i := 119) (by decide +kernel) rfl
theorem tw_1080 : Cond.methodLink RL 117 yX8_make ∈ z_TB := z_t5 (i := 120) (by decide +kernel) rfl
theorem tw_1081 : Cond.instanceMethod yX8_make ∈ z_TB := z_t5 (i := 121) (by decide +kernel) rfl
theorem tw_1082 : Cond.selects RX8 yX8_make yX8_make ∈ z_TB := z_t5 (i := 122) (by decide +kernel) rfl
theorem tw_1083 : Cond.code yX8_make cX8_make 7 (some .int) ∈ z_TB := z_t5 (i := 123) (by decide +kernel) rfl
theorem tw_1084 : Cond.methodLink RX8 238 yX8_canMake ∈ z_TB := z_t5 (i := 124) (by decide +kernel) rfl
theorem tw_1085 : Cond.static yX8_canMake ∈ z_TB := z_t5 (i := 125) (by decide +kernel) rfl
theorem tw_1086 : Cond.code yX8_canMake cX8_canMake 3 (some .boolean) ∈ z_TB := z_t5 (i := 126) (by decide +kernel) rfl
theorem tw_1087 : Cond.constantLong RX8 236 (6) ∈ z_TB := z_t5 (i := 127) (by decide +kernel) rfl
theorem tw_1088 : Cond.methodLink RX8 241 yX8_run ∈ z_TB := z_t5 (i := 128) (by decide +kernel) rfl
theorem tw_1089 : Cond.static yX8_run ∈ z_TB := z_t5 (i := 129) (by decide +kernel) rfl
theorem tw_1090 : Cond.code yX8_run cX8_run 5 (some .int) ∈ z_TB := z_t5 (i := 130) (by decide +kernel) rfl
theorem tw_1091 : Cond.methodLink RX8 245 yX8_rest ∈ z_TB := z_t5 (i := 131) (by decide +kernel) rfl
theorem tw_1092 : Cond.static yX8_rest ∈ z_TB := z_t5 (i := 132) (by decide +kernel) rfl
theorem tw_1093 : Cond.code yX8_rest cX8_rest 4 (some .int) ∈ z_TB := z_t5 (i := 133) (by decide +kernel) rfl
theorem tw_1094 : Cond.methodLink RL 121 yX8_rule ∈ z_TB := z_t5 (i := 134) (by decide +kernel) rfl
theorem tw_1095 : Cond.instanceMethod yX8_rule ∈ z_TB := z_t5 (i := 135) (by decide +kernel) rfl
theorem tw_1096 : Cond.selects RX8 yX8_rule yX8_rule ∈ z_TB := z_t5 (i := 136) (by decide +kernel) rfl
theorem tw_1097 : Cond.code yX8_rule cX8_rule 6 (some .int) ∈ z_TB := z_t5 (i := 137) (by decide +kernel) rfl
theorem tw_1098 : Cond.constantLong RX8 254 (8) ∈ z_TB := z_t5 (i := 138) (by decide +kernel) rfl
theorem tw_1099 : Cond.methodLink RX8 256 yX8_isOfA ∈ z_TB := z_t5 (i := 139) (by decide +kernel) rfl
theorem tw_1100 : Cond.static yX8_isOfA ∈ z_TB := z_t5 (i := 140) (by decide +kernel) rfl
theorem tw_1101 : Cond.code yX8_isOfA cX8_isOfA 1 (some .boolean) ∈ z_TB := z_t5 (i := 141) (by decide +kernel) rfl
theorem tw_1102 : Cond.methodLink RX8 259 yX8_isRule ∈ z_TB := z_t5 (i := 142) (by decide +kernel) rfl
theorem tw_1104 : Cond.instanceMethod yX8_isRule ∈ z_TB := z_t5 (i := 144) (by decide +kernel) rfl
theorem tw_1105 : Cond.code yX8_isRule cX8_isRule 2 (some .boolean) ∈ z_TB := z_t5 (i := 145) (by decide +kernel) rfl
theorem tw_1106 : Cond.methodLink RX8 262 yX8_isC ∈ z_TB := z_t5 (i := 146) (by decide +kernel) rfl
theorem tw_1107 : Cond.static yX8_isC ∈ z_TB := z_t5 (i := 147) (by decide +kernel) rfl
theorem tw_1108 : Cond.code yX8_isC cX8_isC 2 (some .boolean) ∈ z_TB := z_t5 (i := 148) (by decide +kernel) rfl
theorem tw_1109 : Cond.constantLong RX8 248 (-9) ∈ z_TB := z_t5 (i := 149) (by decide +kernel) rfl
theorem tw_1110 : Cond.constantLong RX8 250 (9) ∈ z_TB := z_t5 (i := 150) (by decide +kernel) rfl
theorem tw_1111 : Cond.constantLong RX8 252 (-11) ∈ z_TB := z_t5 (i := 151) (by decide +kernel) rfl
theorem tw_1112 : Cond.methodLink RL 125 yX8_worth ∈ z_TB := z_t5 (i := 152) (by decide +kernel) rfl
theorem tw_1113 : Cond.instanceMethod yX8_worth ∈ z_TB := z_t5 (i := 153) (by decide +kernel) rfl
theorem tw_1114 : Cond.selects RX8 yX8_worth yX8_worth ∈ z_TB := z_t5 (i := 154) (by decide +kernel) rfl
theorem tw_1115 : Cond.code yX8_worth cX8_worth 3 (some .int) ∈ z_TB := z_t5 (i := 155) (by decide +kernel) rfl
theorem tw_1116 : Cond.methodLink RX8 268 yX8_worthOf ∈ z_TB := z_t5 (i := 156) (by decide +kernel) rfl
theorem tw_1118 : Cond.instanceMethod yX8_worthOf ∈ z_TB := z_t5 (i := 158) (by decide +kernel) rfl
theorem tw_1119 : Cond.code yX8_worthOf cX8_worthOf 9 (some .int) ∈ z_TB := z_t5 (i := 159) (by decide +kernel) rfl
theorem tw_1120 : Cond.methodLink RX8 265 yX8_first ∈ z_TB := z_t5 (i := 160) (by decide +kernel) rfl
theorem tw_1122 : Cond.instanceMethod yX8_first ∈ z_TB := z_t5 (i := 162) (by decide +kernel) rfl
theorem tw_1123 : Cond.code yX8_first cX8_first 6 (some .int) ∈ z_TB := z_t5 (i := 163) (by decide +kernel) rfl
theorem tw_1124 : Cond.methodLink RX8 271 yX8_metBy ∈ z_TB := z_t5 (i := 164) (by decide +kernel) rfl
theorem tw_1126 : Cond.instanceMethod yX8_metBy ∈ z_TB := z_t5 (i := 166) (by decide +kernel) rfl
theorem tw_1127 : Cond.code yX8_metBy cX8_metBy 5 (some .int) ∈ z_TB := z_t5 (i := 167) (by decide +kernel) rfl
theorem tw_1128 : Cond.methodLink RL 129 yX8_best ∈ z_TB := z_t5 (i := 168) (by decide +kernel) rfl
theorem tw_1129 : Cond.instanceMethod yX8_best ∈ z_TB := z_t5 (i := 169) (by decide +kernel) rfl
theorem tw_1130 : Cond.selects RX8 yX8_best yX8_best ∈ z_TB := z_t5 (i := 170) (by decide +kernel) rfl
theorem tw_1131 : Cond.code yX8_best cX8_best 8 (some .int) ∈ z_TB := z_t5 (i := 171) (by decide +kernel) rfl
theorem tw_1132 : Cond.methodLink RL 133 yX8_ranked ∈ z_TB := z_t5 (i := 172) (by decide +kernel) rfl
theorem tw_1133 : Cond.instanceMethod yX8_ranked ∈ z_TB := z_t5 (i := 173) (by decide +kernel) rfl
theorem tw_1134 : Cond.selects RX8 yX8_ranked yX8_ranked ∈ z_TB := z_t5 (i := 174) (by decide +kernel) rfl
theorem tw_1135 : Cond.code yX8_ranked cX8_ranked 7 (some .int) ∈ z_TB := z_t5 (i := 175) (by decide +kernel) rfl
theorem tw_1136 : Cond.methodLink RL 137 yX8_sums ∈ z_TB := z_t5 (i := 176) (by decide +kernel) rfl
theorem tw_1137 : Cond.instanceMethod yX8_sums ∈ z_TB := z_t5 (i := 177) (by decide +kernel) rfl
theorem tw_1138 : Cond.selects RX8 yX8_sums yX8_sums ∈ z_TB := z_t5 (i := 178) (by decide +kernel) rfl
theorem tw_1139 : Cond.code yX8_sums cX8_sums 5 (some .int) ∈ z_TB := z_t5 (i := 179) (by decide +kernel) rfl
theorem tw_1140 : Cond.methodLink RL 141 yX8_sheet ∈ z_TB := z_t5 (i := 180) (by decide +kernel) rfl
theorem tw_1141 : Cond.instanceMethod yX8_sheet ∈ z_TB := z_t5 (i := 181) (by decide +kernel) rfl
theorem tw_1142 : Cond.selects RX8 yX8_sheet yX8_sheet ∈ z_TB := z_t5 (i := 182) (by decide +kernel) rfl
theorem tw_1143 : Cond.code yX8_sheet cX8_sheet 5 (some .int) ∈ z_TB := z_t5 (i := 183) (by decide +kernel) rfl
theorem tw_1144 : Cond.methodLink RX8 274 yX8_isSheet ∈ z_TB := z_t5 (i := 184) (by decide +kernel) rfl
theorem tw_1145 : Cond.static yX8_isSheet ∈ z_TB := z_t5 (i := 185) (by decide +kernel) rfl
theorem tw_1146 : Cond.code yX8_isSheet cX8_isSheet 1 (some .boolean) ∈ z_TB := z_t5 (i := 186) (by decide +kernel) rfl
theorem tw_1147 : Cond.constantLong RX8 277 (-1) ∈ z_TB := z_t5 (i := 187) (by decide +kernel) rfl
theorem tw_1148 : Cond.methodLink RL 148 yX8_cell ∈ z_TB := z_t5 (i := 188) (by decide +kernel) rfl
theorem tw_1149 : Cond.instanceMethod yX8_cell ∈ z_TB := z_t5 (i := 189) (by decide +kernel) rfl
theorem tw_1150 : Cond.selects RX8 yX8_cell yX8_cell ∈ z_TB := z_t5 (i := 190) (by decide +kernel) rfl
theorem tw_1151 : Cond.code yX8_cell cX8_cell 6 (some .int) ∈ z_TB := z_t5 (i := 191) (by decide +kernel) rfl
theorem tw_1152 : Cond.methodLink RX8 279 yX8_wrong ∈ z_TB := z_t5 (i := 192) (by decide +kernel) rfl
theorem tw_1154 : Cond.instanceMethod yX8_wrong ∈ z_TB := z_t5 (i := 194) (by decide +kernel) rfl
theorem tw_1155 : Cond.code yX8_wrong cX8_wrong 3 (some .int) ∈ z_TB := z_t5 (i := 195) (by decide +kernel) rfl
theorem tw_1156 : Cond.methodLink RL 153 yX8_read ∈ z_TB := z_t5 (i := 196) (by decide +kernel) rfl
theorem tw_1157 : Cond.instanceMethod yX8_read ∈ z_TB := z_t5 (i := 197) (by decide +kernel) rfl
theorem tw_1158 : Cond.selects RX8 yX8_read yX8_read ∈ z_TB := z_t5 (i := 198) (by decide +kernel) rfl
theorem tw_1159 : Cond.code yX8_read cX8_read 4 (some .long) ∈ z_TB := z_t5 (i := 199) (by decide +kernel) rfl
theorem tw_1160 : Cond.methodLink RL 157 yX8_packs ∈ z_TB := z_t5 (i := 200) (by decide +kernel) rfl
theorem tw_1161 : Cond.instanceMethod yX8_packs ∈ z_TB := z_t5 (i := 201) (by decide +kernel) rfl
theorem tw_1162 : Cond.selects RX8 yX8_packs yX8_packs ∈ z_TB := z_t5 (i := 202) (by decide +kernel) rfl
theorem tw_1163 : Cond.code yX8_packs cX8_packs 9 (some .int) ∈ z_TB := z_t5 (i := 203) (by decide +kernel) rfl
theorem tw_1164 : Cond.methodLink RX8 282 yX8_noLongs ∈ z_TB := z_t5 (i := 204) (by decide +kernel) rfl
theorem tw_1166 : Cond.instanceMethod yX8_noLongs ∈ z_TB := z_t5 (i := 206) (by decide +kernel) rfl
theorem tw_1167 : Cond.code yX8_noLongs cX8_noLongs 2 (some .int) ∈ z_TB := z_t5 (i := 207) (by decide +kernel) rfl
theorem tw_1168 : Cond.constantLong RX8 285 (4096) ∈ z_TB := z_t5 (i := 208) (by decide +kernel) rfl
theorem tw_1169 : Cond.methodLink RX8 287 yX8_cell ∈ z_TB := z_t5 (i := 209) (by decide +kernel) rfl
theorem tw_1170 : Cond.methodLink RL 161 yX8_unpacks ∈ z_TB := z_t5 (i := 210) (by decide +kernel) rfl
theorem tw_1171 : Cond.instanceMethod yX8_unpacks ∈ z_TB := z_t5 (i := 211) (by decide +kernel) rfl
theorem tw_1172 : Cond.selects RX8 yX8_unpacks yX8_unpacks ∈ z_TB := z_t5 (i := 212) (by decide +kernel) rfl
theorem tw_1173 : Cond.code yX8_unpacks cX8_unpacks 8 (some .int) ∈ z_TB := z_t5 (i := 213) (by decide +kernel) rfl
theorem tw_1174 : Cond.constantLong RX8 291 (200) ∈ z_TB := z_t5 (i := 214) (by decide +kernel) rfl
theorem tw_1175 : Cond.methodLink RL 165 yX8_freqs ∈ z_TB := z_t5 (i := 215) (by decide +kernel) rfl
theorem tw_1176 : Cond.instanceMethod yX8_freqs ∈ z_TB := z_t5 (i := 216) (by decide +kernel) rfl
theorem tw_1177 : Cond.selects RX8 yX8_freqs yX8_freqs ∈ z_TB := z_t5 (i := 217) (by decide +kernel) rfl
theorem tw_1178 : Cond.code yX8_freqs cX8_freqs 5 (some .int) ∈ z_TB := z_t5 (i := 218) (by decide +kernel) rfl
theorem tw_1179 : Cond.methodLink RL 169 yX8_image ∈ z_TB := z_t5 (i := 219) (by decide +kernel) rfl
theorem tw_1180 : Cond.instanceMethod yX8_image ∈ z_TB := z_t5 (i := 220) (by decide +kernel) rfl
theorem tw_1181 : Cond.selects RX8 yX8_image yX8_image ∈ z_TB := z_t5 (i := 221) (by decide +kernel) rfl
theorem tw_1182 : Cond.code yX8_image cX8_image 1 (some .int) ∈ z_TB := z_t5 (i := 222) (by decide +kernel) rfl
theorem tw_1183 : Cond.methodLink RX8 297 yX8_copies ∈ z_TB := z_t5 (i := 223) (by decide +kernel) rfl
theorem tw_1184 : Cond.static yX8_copies ∈ z_TB := z_t5 (i := 224) (by decide +kernel) rfl
theorem tw_1185 : Cond.code yX8_copies cX8_copies 3 none ∈ z_TB := z_t5 (i := 225) (by decide +kernel) rfl
theorem tw_1186 : Cond.methodLink RX8 304 yX8_allHeld ∈ z_TB := z_t5 (i := 226) (by decide +kernel) rfl
theorem tw_1188 : Cond.instanceMethod yX8_allHeld ∈ z_TB := z_t5 (i := 228) (by decide +kernel) rfl
theorem tw_1189 : Cond.code yX8_allHeld cX8_allHeld 3 (some .int) ∈ z_TB := z_t5 (i := 229) (by decide +kernel) rfl
theorem tw_1190 : Cond.methodLink RL 173 yX8_back ∈ z_TB := z_t5 (i := 230) (by decide +kernel) rfl
theorem tw_1191 : Cond.instanceMethod yX8_back ∈ z_TB := z_t5 (i := 231) (by decide +kernel) rfl
theorem tw_1192 : Cond.selects RX8 yX8_back yX8_back ∈ z_TB := z_t5 (i := 232) (by decide +kernel) rfl
theorem tw_1193 : Cond.code yX8_back cX8_back 1 (some .int) ∈ z_TB := z_t5 (i := 233) (by decide +kernel) rfl
theorem tw_1194 : Cond.methodLink RL 177 yX8_count ∈ z_TB := z_t5 (i := 234) (by decide +kernel) rfl
theorem tw_1195 : Cond.instanceMethod yX8_count ∈ z_TB := z_t5 (i := 235) (by decide +kernel) rfl
theorem tw_1196 : Cond.selects RX8 yX8_count yX8_count ∈ z_TB := z_t5 (i := 236) (by decide +kernel) rfl
theorem tw_1197 : Cond.code yX8_count cX8_count 4 (some .int) ∈ z_TB := z_t5 (i := 237) (by decide +kernel) rfl
theorem tw_1198 : Cond.constantLong RL 142 (4294967295) ∈ z_TB := z_t5 (i := 238) (by decide +kernel) rfl
theorem ts_0 : Cond.selects RX7 yX7_tableOf yX7_tableOf ∈ z_TB := z_ts (i := 0) (by decide +kernel) rfl
theorem ts_1 : Cond.selects RX7 yX7_findDual yX7_findDual ∈ z_TB := z_ts (i := 1) (by decide +kernel) rfl
theorem ts_2 : Cond.selects RX6 yX6_visit yX6_visit ∈ z_TB := z_ts (i := 2) (by decide +kernel) rfl
theorem ts_3 : Cond.selects RX6 yX6_keepWithout yX6_keepWithout ∈ z_TB := z_ts (i := 3) (by decide +kernel) rfl
theorem ts_4 : Cond.selects RX6 yX6_keepReduced yX6_keepReduced ∈ z_TB := z_ts (i := 4) (by decide +kernel) rfl
theorem ts_5 : Cond.selects RX5 yX5_commonWord yX5_commonWord ∈ z_TB := z_ts (i := 5) (by decide +kernel) rfl
theorem ts_6 : Cond.selects RX7 yX7_fillSpare yX7_fillSpare ∈ z_TB := z_ts (i := 6) (by decide +kernel) rfl
theorem ts_7 : Cond.selects RX7 yX7_isNoRule yX7_isNoRule ∈ z_TB := z_ts (i := 7) (by decide +kernel) rfl
theorem ts_8 : Cond.selects RX7 yX7_tellsNow yX7_tellsNow ∈ z_TB := z_ts (i := 8) (by decide +kernel) rfl
theorem ts_9 : Cond.selects RX7 yX7_tells yX7_tells ∈ z_TB := z_ts (i := 9) (by decide +kernel) rfl
theorem ts_10 : Cond.selects RX7 yX7_tellsByParts yX7_tellsByParts ∈ z_TB := z_ts (i := 10) (by decide +kernel) rfl
theorem ts_11 : Cond.selects RX7 yX7_tellsAlone yX7_tellsAlone ∈ z_TB := z_ts (i := 11) (by decide +kernel) rfl
theorem ts_12 : Cond.selects RX7 yX7_rankOf yX7_rankOf ∈ z_TB := z_ts (i := 12) (by decide +kernel) rfl
theorem ts_13 : Cond.selects RX8 yX8_remembers yX8_remembers ∈ z_TB := z_ts (i := 13) (by decide +kernel) rfl
theorem ts_14 : Cond.selects RX8 yX8_tallyOf yX8_tallyOf ∈ z_TB := z_ts (i := 14) (by decide +kernel) rfl
theorem ts_15 : Cond.selects RX8 yX8_placeOf yX8_placeOf ∈ z_TB := z_ts (i := 15) (by decide +kernel) rfl
theorem ts_16 : Cond.selects RX8 yX8_setOf yX8_setOf ∈ z_TB := z_ts (i := 16) (by decide +kernel) rfl
theorem ts_17 : Cond.selects RX8 yX8_tells yX8_tells ∈ z_TB := z_ts (i := 17) (by decide +kernel) rfl
theorem ts_18 : Cond.selects RX8 yX8_takes yX8_takes ∈ z_TB := z_ts (i := 18) (by decide +kernel) rfl
theorem ts_19 : Cond.selects RX8 yX8_drops yX8_drops ∈ z_TB := z_ts (i := 19) (by decide +kernel) rfl
theorem ts_20 : Cond.selects RX8 yX8_oftenIn yX8_oftenIn ∈ z_TB := z_ts (i := 20) (by decide +kernel) rfl
theorem ts_21 : Cond.selects RX8 yX8_hasPart yX8_hasPart ∈ z_TB := z_ts (i := 21) (by decide +kernel) rfl
theorem ts_22 : Cond.selects RX8 yX8_does yX8_does ∈ z_TB := z_ts (i := 22) (by decide +kernel) rfl
theorem ts_23 : Cond.selects RX8 yX8_wants yX8_wants ∈ z_TB := z_ts (i := 23) (by decide +kernel) rfl
theorem ts_24 : Cond.selects RX8 yX8_hits yX8_hits ∈ z_TB := z_ts (i := 24) (by decide +kernel) rfl
theorem ts_25 : Cond.selects RX8 yX8_findsDual yX8_findsDual ∈ z_TB := z_ts (i := 25) (by decide +kernel) rfl
theorem ts_26 : Cond.selects RX8 yX8_findsLeast yX8_findsLeast ∈ z_TB := z_ts (i := 26) (by decide +kernel) rfl
theorem ts_27 : Cond.selects RX8 yX8_leastAt yX8_leastAt ∈ z_TB := z_ts (i := 27) (by decide +kernel) rfl
theorem ts_28 : Cond.selects RX8 yX8_findsTree yX8_findsTree ∈ z_TB := z_ts (i := 28) (by decide +kernel) rfl
theorem ts_29 : Cond.selects RX8 yX8_thins yX8_thins ∈ z_TB := z_ts (i := 29) (by decide +kernel) rfl
theorem ts_30 : Cond.selects RX8 yX8_grows yX8_grows ∈ z_TB := z_ts (i := 30) (by decide +kernel) rfl
theorem ts_31 : Cond.selects RX8 yX8_topOf yX8_topOf ∈ z_TB := z_ts (i := 31) (by decide +kernel) rfl
theorem ts_32 : Cond.selects RX8 yX8_supportOf yX8_supportOf ∈ z_TB := z_ts (i := 32) (by decide +kernel) rfl
theorem ts_33 : Cond.selects RX8 yX8_isBorder yX8_isBorder ∈ z_TB := z_ts (i := 33) (by decide +kernel) rfl
theorem ts_34 : Cond.selects RX8 yX8_isRule yX8_isRule ∈ z_TB := z_ts (i := 34) (by decide +kernel) rfl
theorem ts_35 : Cond.selects RX8 yX8_worthOf yX8_worthOf ∈ z_TB := z_ts (i := 35) (by decide +kernel) rfl
theorem ts_36 : Cond.selects RX8 yX8_first yX8_first ∈ z_TB := z_ts (i := 36) (by decide +kernel) rfl
theorem ts_37 : Cond.selects RX8 yX8_metBy yX8_metBy ∈ z_TB := z_ts (i := 37) (by decide +kernel) rfl
theorem ts_38 : Cond.selects RX8 yX8_wrong yX8_wrong ∈ z_TB := z_ts (i := 38) (by decide +kernel) rfl
theorem ts_39 : Cond.selects RX8 yX8_noLongs yX8_noLongs ∈ z_TB := z_ts (i := 39) (by decide +kernel) rfl
theorem ts_40 : Cond.selects RX8 yX8_allHeld yX8_allHeld ∈ z_TB := z_ts (i := 40) (by decide +kernel) rfl
end
section
theorem zz_t : True := trivial
end
