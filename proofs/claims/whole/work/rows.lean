section
-- ===== PART A: goes FIRST, ahead of the names: the tables' words, and 'selects' of the private methods out of them =====
/-- a private method of a class that the tables say can be made, by its rows of tables_1 -/
def lw_okq (q : MethodName × Nat) : Prop := (q.1.cls ≠ "java/lang/invoke/MethodHandle" ∧ q.1.cls ≠ "java/lang/invoke/VarHandle") ∧ Cond.instantiable q.1.cls q.2 ∈ tables_1 ∧ Cond.privateMethod q.1 ∈ tables_1 ∧ Cond.instanceMethod q.1 ∈ tables_1
theorem lw_p0 : lw_okq (⟨"EachIsHit", "tableOf", "(ILEachIsHit$Family;)LEachIsHit$Table;"⟩, 11) := ⟨⟨by decide +kernel, by decide +kernel⟩, List.mem_of_getElem? (i := 16) (by decide +kernel), List.mem_of_getElem? (i := 397) (by decide +kernel), List.mem_of_getElem? (i := 398) (by decide +kernel)⟩
theorem lw_p1 : lw_okq (⟨"EachIsHit", "findDual", "(LEachIsHit$Family;)V"⟩, 11) := ⟨⟨by decide +kernel, by decide +kernel⟩, List.mem_of_getElem? (i := 16) (by decide +kernel), List.mem_of_getElem? (i := 423) (by decide +kernel), List.mem_of_getElem? (i := 424) (by decide +kernel)⟩
theorem lw_p2 : lw_okq (⟨"EachIsHit$Walk", "visit", "(III)V"⟩, 10) := ⟨⟨by decide +kernel, by decide +kernel⟩, List.mem_of_getElem? (i := 152) (by decide +kernel), List.mem_of_getElem? (i := 527) (by decide +kernel), List.mem_of_getElem? (i := 528) (by decide +kernel)⟩
theorem lw_p3 : lw_okq (⟨"EachIsHit$Walk", "keepWithout", "(III)I"⟩, 10) := ⟨⟨by decide +kernel, by decide +kernel⟩, List.mem_of_getElem? (i := 152) (by decide +kernel), List.mem_of_getElem? (i := 533) (by decide +kernel), List.mem_of_getElem? (i := 534) (by decide +kernel)⟩
theorem lw_p4 : lw_okq (⟨"EachIsHit$Walk", "keepReduced", "(III)I"⟩, 10) := ⟨⟨by decide +kernel, by decide +kernel⟩, List.mem_of_getElem? (i := 152) (by decide +kernel), List.mem_of_getElem? (i := 538) (by decide +kernel), List.mem_of_getElem? (i := 539) (by decide +kernel)⟩
theorem lw_p5 : lw_okq (⟨"EachIsHit$Table", "commonWord", "(LEachIsHit$Family;II)J"⟩, 2) := ⟨⟨by decide +kernel, by decide +kernel⟩, List.mem_of_getElem? (i := 201) (by decide +kernel), List.mem_of_getElem? (i := 574) (by decide +kernel), List.mem_of_getElem? (i := 575) (by decide +kernel)⟩
theorem lw_p6 : lw_okq (⟨"EachIsHit", "fillSpare", "(III)Z"⟩, 11) := ⟨⟨by decide +kernel, by decide +kernel⟩, List.mem_of_getElem? (i := 16) (by decide +kernel), List.mem_of_getElem? (i := 591) (by decide +kernel), List.mem_of_getElem? (i := 592) (by decide +kernel)⟩
theorem lw_p7 : lw_okq (⟨"EachIsHit", "isNoRule", "(I)Z"⟩, 11) := ⟨⟨by decide +kernel, by decide +kernel⟩, List.mem_of_getElem? (i := 16) (by decide +kernel), List.mem_of_getElem? (i := 615) (by decide +kernel), List.mem_of_getElem? (i := 616) (by decide +kernel)⟩
theorem lw_p8 : lw_okq (⟨"EachIsHit", "tellsNow", "(II)I"⟩, 11) := ⟨⟨by decide +kernel, by decide +kernel⟩, List.mem_of_getElem? (i := 16) (by decide +kernel), List.mem_of_getElem? (i := 631) (by decide +kernel), List.mem_of_getElem? (i := 632) (by decide +kernel)⟩
theorem lw_p9 : lw_okq (⟨"EachIsHit", "tells", "(III)I"⟩, 11) := ⟨⟨by decide +kernel, by decide +kernel⟩, List.mem_of_getElem? (i := 16) (by decide +kernel), List.mem_of_getElem? (i := 635) (by decide +kernel), List.mem_of_getElem? (i := 636) (by decide +kernel)⟩
theorem lw_p10 : lw_okq (⟨"EachIsHit", "tellsByParts", "(LEachIsHit$Rule;II)I"⟩, 11) := ⟨⟨by decide +kernel, by decide +kernel⟩, List.mem_of_getElem? (i := 16) (by decide +kernel), List.mem_of_getElem? (i := 639) (by decide +kernel), List.mem_of_getElem? (i := 640) (by decide +kernel)⟩
theorem lw_p11 : lw_okq (⟨"EachIsHit", "tellsAlone", "(LEachIsHit$Rule;I)I"⟩, 11) := ⟨⟨by decide +kernel, by decide +kernel⟩, List.mem_of_getElem? (i := 16) (by decide +kernel), List.mem_of_getElem? (i := 648) (by decide +kernel), List.mem_of_getElem? (i := 649) (by decide +kernel)⟩
theorem lw_p12 : lw_okq (⟨"EachIsHit", "rankOf", "(II)I"⟩, 11) := ⟨⟨by decide +kernel, by decide +kernel⟩, List.mem_of_getElem? (i := 16) (by decide +kernel), List.mem_of_getElem? (i := 667) (by decide +kernel), List.mem_of_getElem? (i := 668) (by decide +kernel)⟩
theorem lw_p13 : lw_okq (⟨"EachIsHitModel", "remembers", "(III)V"⟩, 39) := ⟨⟨by decide +kernel, by decide +kernel⟩, List.mem_of_getElem? (i := 744) (by decide +kernel), List.mem_of_getElem? (i := 881) (by decide +kernel), List.mem_of_getElem? (i := 882) (by decide +kernel)⟩
theorem lw_p14 : lw_okq (⟨"EachIsHitModel", "tallyOf", "(II)I"⟩, 39) := ⟨⟨by decide +kernel, by decide +kernel⟩, List.mem_of_getElem? (i := 744) (by decide +kernel), List.mem_of_getElem? (i := 901) (by decide +kernel), List.mem_of_getElem? (i := 902) (by decide +kernel)⟩
theorem lw_p15 : lw_okq (⟨"EachIsHitModel", "placeOf", "(II)I"⟩, 39) := ⟨⟨by decide +kernel, by decide +kernel⟩, List.mem_of_getElem? (i := 744) (by decide +kernel), List.mem_of_getElem? (i := 905) (by decide +kernel), List.mem_of_getElem? (i := 906) (by decide +kernel)⟩
def lw_privs_1 : List (MethodName × Nat) := [(⟨"EachIsHit", "tableOf", "(ILEachIsHit$Family;)LEachIsHit$Table;"⟩, 11), (⟨"EachIsHit", "findDual", "(LEachIsHit$Family;)V"⟩, 11), (⟨"EachIsHit$Walk", "visit", "(III)V"⟩, 10), (⟨"EachIsHit$Walk", "keepWithout", "(III)I"⟩, 10), (⟨"EachIsHit$Walk", "keepReduced", "(III)I"⟩, 10), (⟨"EachIsHit$Table", "commonWord", "(LEachIsHit$Family;II)J"⟩, 2), (⟨"EachIsHit", "fillSpare", "(III)Z"⟩, 11), (⟨"EachIsHit", "isNoRule", "(I)Z"⟩, 11), (⟨"EachIsHit", "tellsNow", "(II)I"⟩, 11), (⟨"EachIsHit", "tells", "(III)I"⟩, 11), (⟨"EachIsHit", "tellsByParts", "(LEachIsHit$Rule;II)I"⟩, 11), (⟨"EachIsHit", "tellsAlone", "(LEachIsHit$Rule;I)I"⟩, 11), (⟨"EachIsHit", "rankOf", "(II)I"⟩, 11), (⟨"EachIsHitModel", "remembers", "(III)V"⟩, 39), (⟨"EachIsHitModel", "tallyOf", "(II)I"⟩, 39), (⟨"EachIsHitModel", "placeOf", "(II)I"⟩, 39)]
theorem lw_r1 : ∀ q ∈ lw_privs_1, lw_okq q := List.forall_mem_cons.mpr ⟨lw_p0, List.forall_mem_cons.mpr ⟨lw_p1, List.forall_mem_cons.mpr ⟨lw_p2, List.forall_mem_cons.mpr ⟨lw_p3, List.forall_mem_cons.mpr ⟨lw_p4, List.forall_mem_cons.mpr ⟨lw_p5, List.forall_mem_cons.mpr ⟨lw_p6, List.forall_mem_cons.mpr ⟨lw_p7, List.forall_mem_cons.mpr ⟨lw_p8, List.forall_mem_cons.mpr ⟨lw_p9, List.forall_mem_cons.mpr ⟨lw_p10, List.forall_mem_cons.mpr ⟨lw_p11, List.forall_mem_cons.mpr ⟨lw_p12, List.forall_mem_cons.mpr ⟨lw_p13, List.forall_mem_cons.mpr ⟨lw_p14, List.forall_mem_cons.mpr ⟨lw_p15, fun _ h => absurd h List.not_mem_nil⟩⟩⟩⟩⟩⟩⟩⟩⟩⟩⟩⟩⟩⟩⟩⟩
theorem lw_p16 : lw_okq (⟨"EachIsHitModel", "setOf", "(II)I"⟩, 39) := ⟨⟨by decide +kernel, by decide +kernel⟩, List.mem_of_getElem? (i := 744) (by decide +kernel), List.mem_of_getElem? (i := 909) (by decide +kernel), List.mem_of_getElem? (i := 910) (by decide +kernel)⟩
theorem lw_p17 : lw_okq (⟨"EachIsHitModel", "tells", "(II)I"⟩, 39) := ⟨⟨by decide +kernel, by decide +kernel⟩, List.mem_of_getElem? (i := 744) (by decide +kernel), List.mem_of_getElem? (i := 913) (by decide +kernel), List.mem_of_getElem? (i := 914) (by decide +kernel)⟩
theorem lw_p18 : lw_okq (⟨"EachIsHitModel", "takes", "(II)I"⟩, 39) := ⟨⟨by decide +kernel, by decide +kernel⟩, List.mem_of_getElem? (i := 744) (by decide +kernel), List.mem_of_getElem? (i := 921) (by decide +kernel), List.mem_of_getElem? (i := 922) (by decide +kernel)⟩
theorem lw_p19 : lw_okq (⟨"EachIsHitModel", "drops", "(II)V"⟩, 39) := ⟨⟨by decide +kernel, by decide +kernel⟩, List.mem_of_getElem? (i := 744) (by decide +kernel), List.mem_of_getElem? (i := 925) (by decide +kernel), List.mem_of_getElem? (i := 926) (by decide +kernel)⟩
theorem lw_p20 : lw_okq (⟨"EachIsHitModel", "oftenIn", "(II)I"⟩, 39) := ⟨⟨by decide +kernel, by decide +kernel⟩, List.mem_of_getElem? (i := 744) (by decide +kernel), List.mem_of_getElem? (i := 957) (by decide +kernel), List.mem_of_getElem? (i := 958) (by decide +kernel)⟩
theorem lw_p21 : lw_okq (⟨"EachIsHitModel", "hasPart", "(II)Z"⟩, 39) := ⟨⟨by decide +kernel, by decide +kernel⟩, List.mem_of_getElem? (i := 744) (by decide +kernel), List.mem_of_getElem? (i := 969) (by decide +kernel), List.mem_of_getElem? (i := 970) (by decide +kernel)⟩
theorem lw_p22 : lw_okq (⟨"EachIsHitModel", "does", "(III)Z"⟩, 39) := ⟨⟨by decide +kernel, by decide +kernel⟩, List.mem_of_getElem? (i := 744) (by decide +kernel), List.mem_of_getElem? (i := 988) (by decide +kernel), List.mem_of_getElem? (i := 989) (by decide +kernel)⟩
theorem lw_p23 : lw_okq (⟨"EachIsHitModel", "wants", "(I)V"⟩, 39) := ⟨⟨by decide +kernel, by decide +kernel⟩, List.mem_of_getElem? (i := 744) (by decide +kernel), List.mem_of_getElem? (i := 992) (by decide +kernel), List.mem_of_getElem? (i := 993) (by decide +kernel)⟩
theorem lw_p24 : lw_okq (⟨"EachIsHitModel", "hits", "(I)I"⟩, 39) := ⟨⟨by decide +kernel, by decide +kernel⟩, List.mem_of_getElem? (i := 744) (by decide +kernel), List.mem_of_getElem? (i := 996) (by decide +kernel), List.mem_of_getElem? (i := 997) (by decide +kernel)⟩
theorem lw_p25 : lw_okq (⟨"EachIsHitModel", "findsDual", "(I)V"⟩, 39) := ⟨⟨by decide +kernel, by decide +kernel⟩, List.mem_of_getElem? (i := 744) (by decide +kernel), List.mem_of_getElem? (i := 1012) (by decide +kernel), List.mem_of_getElem? (i := 1013) (by decide +kernel)⟩
theorem lw_p26 : lw_okq (⟨"EachIsHitModel", "findsLeast", "()V"⟩, 39) := ⟨⟨by decide +kernel, by decide +kernel⟩, List.mem_of_getElem? (i := 744) (by decide +kernel), List.mem_of_getElem? (i := 1016) (by decide +kernel), List.mem_of_getElem? (i := 1017) (by decide +kernel)⟩
theorem lw_p27 : lw_okq (⟨"EachIsHitModel", "leastAt", "(I)I"⟩, 39) := ⟨⟨by decide +kernel, by decide +kernel⟩, List.mem_of_getElem? (i := 744) (by decide +kernel), List.mem_of_getElem? (i := 1020) (by decide +kernel), List.mem_of_getElem? (i := 1021) (by decide +kernel)⟩
theorem lw_p28 : lw_okq (⟨"EachIsHitModel", "findsTree", "(II)V"⟩, 39) := ⟨⟨by decide +kernel, by decide +kernel⟩, List.mem_of_getElem? (i := 744) (by decide +kernel), List.mem_of_getElem? (i := 1037) (by decide +kernel), List.mem_of_getElem? (i := 1038) (by decide +kernel)⟩
theorem lw_p29 : lw_okq (⟨"EachIsHitModel", "thins", "(II)I"⟩, 39) := ⟨⟨by decide +kernel, by decide +kernel⟩, List.mem_of_getElem? (i := 744) (by decide +kernel), List.mem_of_getElem? (i := 1041) (by decide +kernel), List.mem_of_getElem? (i := 1042) (by decide +kernel)⟩
theorem lw_p30 : lw_okq (⟨"EachIsHitModel", "grows", "(III)V"⟩, 39) := ⟨⟨by decide +kernel, by decide +kernel⟩, List.mem_of_getElem? (i := 744) (by decide +kernel), List.mem_of_getElem? (i := 1045) (by decide +kernel), List.mem_of_getElem? (i := 1046) (by decide +kernel)⟩
theorem lw_p31 : lw_okq (⟨"EachIsHitModel", "topOf", "(II)I"⟩, 39) := ⟨⟨by decide +kernel, by decide +kernel⟩, List.mem_of_getElem? (i := 744) (by decide +kernel), List.mem_of_getElem? (i := 1049) (by decide +kernel), List.mem_of_getElem? (i := 1050) (by decide +kernel)⟩
def lw_privs_2 : List (MethodName × Nat) := [(⟨"EachIsHitModel", "setOf", "(II)I"⟩, 39), (⟨"EachIsHitModel", "tells", "(II)I"⟩, 39), (⟨"EachIsHitModel", "takes", "(II)I"⟩, 39), (⟨"EachIsHitModel", "drops", "(II)V"⟩, 39), (⟨"EachIsHitModel", "oftenIn", "(II)I"⟩, 39), (⟨"EachIsHitModel", "hasPart", "(II)Z"⟩, 39), (⟨"EachIsHitModel", "does", "(III)Z"⟩, 39), (⟨"EachIsHitModel", "wants", "(I)V"⟩, 39), (⟨"EachIsHitModel", "hits", "(I)I"⟩, 39), (⟨"EachIsHitModel", "findsDual", "(I)V"⟩, 39), (⟨"EachIsHitModel", "findsLeast", "()V"⟩, 39), (⟨"EachIsHitModel", "leastAt", "(I)I"⟩, 39), (⟨"EachIsHitModel", "findsTree", "(II)V"⟩, 39), (⟨"EachIsHitModel", "thins", "(II)I"⟩, 39), (⟨"EachIsHitModel", "grows", "(III)V"⟩, 39), (⟨"EachIsHitModel", "topOf", "(II)I"⟩, 39)]
theorem lw_r2 : ∀ q ∈ lw_privs_2, lw_okq q := List.forall_mem_cons.mpr ⟨lw_p16, List.forall_mem_cons.mpr ⟨lw_p17, List.forall_mem_cons.mpr ⟨lw_p18, List.forall_mem_cons.mpr ⟨lw_p19, List.forall_mem_cons.mpr ⟨lw_p20, List.forall_mem_cons.mpr ⟨lw_p21, List.forall_mem_cons.mpr ⟨lw_p22, List.forall_mem_cons.mpr ⟨lw_p23, List.forall_mem_cons.mpr ⟨lw_p24, List.forall_mem_cons.mpr ⟨lw_p25, List.forall_mem_cons.mpr ⟨lw_p26, List.forall_mem_cons.mpr ⟨lw_p27, List.forall_mem_cons.mpr ⟨lw_p28, List.forall_mem_cons.mpr ⟨lw_p29, List.forall_mem_cons.mpr ⟨lw_p30, List.forall_mem_cons.mpr ⟨lw_p31, fun _ h => absurd h List.not_mem_nil⟩⟩⟩⟩⟩⟩⟩⟩⟩⟩⟩⟩⟩⟩⟩⟩
theorem lw_p32 : lw_okq (⟨"EachIsHitModel", "supportOf", "(II)I"⟩, 39) := ⟨⟨by decide +kernel, by decide +kernel⟩, List.mem_of_getElem? (i := 744) (by decide +kernel), List.mem_of_getElem? (i := 1068) (by decide +kernel), List.mem_of_getElem? (i := 1069) (by decide +kernel)⟩
theorem lw_p33 : lw_okq (⟨"EachIsHitModel", "isBorder", "(II)Z"⟩, 39) := ⟨⟨by decide +kernel, by decide +kernel⟩, List.mem_of_getElem? (i := 744) (by decide +kernel), List.mem_of_getElem? (i := 1077) (by decide +kernel), List.mem_of_getElem? (i := 1078) (by decide +kernel)⟩
theorem lw_p34 : lw_okq (⟨"EachIsHitModel", "isRule", "(I)Z"⟩, 39) := ⟨⟨by decide +kernel, by decide +kernel⟩, List.mem_of_getElem? (i := 744) (by decide +kernel), List.mem_of_getElem? (i := 1103) (by decide +kernel), List.mem_of_getElem? (i := 1104) (by decide +kernel)⟩
theorem lw_p35 : lw_okq (⟨"EachIsHitModel", "worthOf", "(II)I"⟩, 39) := ⟨⟨by decide +kernel, by decide +kernel⟩, List.mem_of_getElem? (i := 744) (by decide +kernel), List.mem_of_getElem? (i := 1117) (by decide +kernel), List.mem_of_getElem? (i := 1118) (by decide +kernel)⟩
theorem lw_p36 : lw_okq (⟨"EachIsHitModel", "first", "(II)I"⟩, 39) := ⟨⟨by decide +kernel, by decide +kernel⟩, List.mem_of_getElem? (i := 744) (by decide +kernel), List.mem_of_getElem? (i := 1121) (by decide +kernel), List.mem_of_getElem? (i := 1122) (by decide +kernel)⟩
theorem lw_p37 : lw_okq (⟨"EachIsHitModel", "metBy", "(II)I"⟩, 39) := ⟨⟨by decide +kernel, by decide +kernel⟩, List.mem_of_getElem? (i := 744) (by decide +kernel), List.mem_of_getElem? (i := 1125) (by decide +kernel), List.mem_of_getElem? (i := 1126) (by decide +kernel)⟩
theorem lw_p38 : lw_okq (⟨"EachIsHitModel", "wrong", "(II)I"⟩, 39) := ⟨⟨by decide +kernel, by decide +kernel⟩, List.mem_of_getElem? (i := 744) (by decide +kernel), List.mem_of_getElem? (i := 1153) (by decide +kernel), List.mem_of_getElem? (i := 1154) (by decide +kernel)⟩
theorem lw_p39 : lw_okq (⟨"EachIsHitModel", "noLongs", "(I)I"⟩, 39) := ⟨⟨by decide +kernel, by decide +kernel⟩, List.mem_of_getElem? (i := 744) (by decide +kernel), List.mem_of_getElem? (i := 1165) (by decide +kernel), List.mem_of_getElem? (i := 1166) (by decide +kernel)⟩
theorem lw_p40 : lw_okq (⟨"EachIsHitModel", "allHeld", "()I"⟩, 39) := ⟨⟨by decide +kernel, by decide +kernel⟩, List.mem_of_getElem? (i := 744) (by decide +kernel), List.mem_of_getElem? (i := 1187) (by decide +kernel), List.mem_of_getElem? (i := 1188) (by decide +kernel)⟩
def lw_privs_3 : List (MethodName × Nat) := [(⟨"EachIsHitModel", "supportOf", "(II)I"⟩, 39), (⟨"EachIsHitModel", "isBorder", "(II)Z"⟩, 39), (⟨"EachIsHitModel", "isRule", "(I)Z"⟩, 39), (⟨"EachIsHitModel", "worthOf", "(II)I"⟩, 39), (⟨"EachIsHitModel", "first", "(II)I"⟩, 39), (⟨"EachIsHitModel", "metBy", "(II)I"⟩, 39), (⟨"EachIsHitModel", "wrong", "(II)I"⟩, 39), (⟨"EachIsHitModel", "noLongs", "(I)I"⟩, 39), (⟨"EachIsHitModel", "allHeld", "()I"⟩, 39)]
theorem lw_r3 : ∀ q ∈ lw_privs_3, lw_okq q := List.forall_mem_cons.mpr ⟨lw_p32, List.forall_mem_cons.mpr ⟨lw_p33, List.forall_mem_cons.mpr ⟨lw_p34, List.forall_mem_cons.mpr ⟨lw_p35, List.forall_mem_cons.mpr ⟨lw_p36, List.forall_mem_cons.mpr ⟨lw_p37, List.forall_mem_cons.mpr ⟨lw_p38, List.forall_mem_cons.mpr ⟨lw_p39, List.forall_mem_cons.mpr ⟨lw_p40, fun _ h => absurd h List.not_mem_nil⟩⟩⟩⟩⟩⟩⟩⟩⟩
def lw_privs : List (MethodName × Nat) := lw_privs_1 ++ (lw_privs_2 ++ (lw_privs_3))
def lw_tbl : List Cond := k2_sels lw_privs ++ tables_1
theorem lw_privs_ok : ∀ q ∈ lw_privs, lw_okq q := by
  show ∀ q ∈ lw_privs_1 ++ (lw_privs_2 ++ (lw_privs_3)), lw_okq q
  exact List.forall_mem_append.mpr ⟨lw_r1, List.forall_mem_append.mpr ⟨lw_r2, lw_r3⟩⟩
/-! names, fields (printed) -/
def RX0 : String := "EachIsHit$Acts"
def TX0 : u_T := fun k => match k with
  | 0 => ("EachIsHit$Acts", "kinds", "[I", true)
  | 1 => ("EachIsHit$Acts", "wheres", "[I", true)
  | 2 => ("EachIsHit$Acts", "whats", "[I", true)
  | _ => ("EachIsHit$Acts", "known", "I", false)
def tyX0 : Nat → FieldType := fun k => match k with
  | 0 => .array .int
  | 1 => .array .int
  | 2 => .array .int
  | _ => .int
abbrev wsX00 : List Cond := u_ws RX0 TX0 4
theorem nmX0 : ∀ a, a < 4 → ∀ b, b < 4 → a ≠ b → (TX0 a).2.1 ≠ (TX0 b).2.1 := by decide +kernel
theorem tyX0_ok : ∀ k, k < 4 → parseFieldDescriptor (TX0 k).2.2.1 = some (tyX0 k) := by decide +kernel
abbrev cX0_init : ByteArray := prog_2_method_1_code
def yX0_init : MethodName := ⟨RX0, "<init>", "()V"⟩
abbrev cX0_remember : ByteArray := prog_2_method_2_code
def yX0_remember : MethodName := ⟨RX0, "remember", "(III)V"⟩
abbrev cX0_forgetOldest : ByteArray := prog_2_method_3_code
def yX0_forgetOldest : MethodName := ⟨RX0, "forgetOldest", "()V"⟩
abbrev cX0_forgetLast : ByteArray := prog_2_method_4_code
def yX0_forgetLast : MethodName := ⟨RX0, "forgetLast", "()I"⟩
abbrev cX0_forgetAll : ByteArray := prog_2_method_5_code
def yX0_forgetAll : MethodName := ⟨RX0, "forgetAll", "()V"⟩
def RX1 : String := "EachIsHit$Family"
def TX1 : u_T := fun k => match k with
  | 0 => ("EachIsHit$Family", "sets", "[I", true)
  | 1 => ("EachIsHit$Family", "tallies", "[I", true)
  | _ => ("EachIsHit$Family", "held", "I", false)
def tyX1 : Nat → FieldType := fun k => match k with
  | 0 => .array .int
  | 1 => .array .int
  | _ => .int
abbrev wsX10 : List Cond := u_ws RX1 TX1 3
theorem nmX1 : ∀ a, a < 3 → ∀ b, b < 3 → a ≠ b → (TX1 a).2.1 ≠ (TX1 b).2.1 := by decide +kernel
theorem tyX1_ok : ∀ k, k < 3 → parseFieldDescriptor (TX1 k).2.2.1 = some (tyX1 k) := by decide +kernel
abbrev cX1_init : ByteArray := prog_3_method_1_code
def yX1_init : MethodName := ⟨RX1, "<init>", "()V"⟩
abbrev cX1_placeOf : ByteArray := prog_3_method_2_code
def yX1_placeOf : MethodName := ⟨RX1, "placeOf", "(I)I"⟩
abbrev cX1_tallyOf : ByteArray := prog_3_method_3_code
def yX1_tallyOf : MethodName := ⟨RX1, "tallyOf", "(I)I"⟩
abbrev cX1_add : ByteArray := prog_3_method_4_code
def yX1_add : MethodName := ⟨RX1, "add", "(I)I"⟩
abbrev cX1_append : ByteArray := prog_3_method_5_code
def yX1_append : MethodName := ⟨RX1, "append", "(II)I"⟩
abbrev cX1_drop : ByteArray := prog_3_method_6_code
def yX1_drop : MethodName := ⟨RX1, "drop", "(I)I"⟩
abbrev cX1_removeAt : ByteArray := prog_3_method_7_code
def yX1_removeAt : MethodName := ⟨RX1, "removeAt", "(I)V"⟩
abbrev cX1_clear : ByteArray := prog_3_method_8_code
def yX1_clear : MethodName := ⟨RX1, "clear", "()V"⟩
abbrev cX1_become : ByteArray := prog_3_method_9_code
def yX1_become : MethodName := ⟨RX1, "become", "(LEachIsHit$Family;)V"⟩
abbrev cX1_countWith : ByteArray := prog_3_method_10_code
def yX1_countWith : MethodName := ⟨RX1, "countWith", "(I)I"⟩
abbrev cX1_countMet : ByteArray := prog_3_method_11_code
def yX1_countMet : MethodName := ⟨RX1, "countMet", "(I)I"⟩
abbrev cX1_hasPart : ByteArray := prog_3_method_12_code
def yX1_hasPart : MethodName := ⟨RX1, "hasPart", "(I)Z"⟩
abbrev cX1_talliesAround : ByteArray := prog_3_method_13_code
def yX1_talliesAround : MethodName := ⟨RX1, "talliesAround", "(I)I"⟩
abbrev cX1_firstOutside : ByteArray := prog_3_method_14_code
def yX1_firstOutside : MethodName := ⟨RX1, "firstOutside", "(LEachIsHit$Table;)I"⟩
abbrev cX1_packedFrom : ByteArray := prog_3_method_15_code
def yX1_packedFrom : MethodName := ⟨RX1, "packedFrom", "(I)J"⟩
def RX2 : String := "EachIsHit$Rule"
def TX2 : u_T := fun k => match k with
  | 0 => ("EachIsHit$Rule", "how", "I", false)
  | 1 => ("EachIsHit$Rule", "a", "I", false)
  | 2 => ("EachIsHit$Rule", "b", "I", false)
  | 3 => ("EachIsHit$Rule", "c", "I", false)
  | 4 => ("EachIsHit$Rule", "prices", "[I", true)
  | 5 => ("EachIsHit$Rule", "lastSet", "I", false)
  | _ => ("EachIsHit$Rule", "lastAnswer", "I", false)
def tyX2 : Nat → FieldType := fun k => match k with
  | 0 => .int
  | 1 => .int
  | 2 => .int
  | 3 => .int
  | 4 => .array .int
  | 5 => .int
  | _ => .int
abbrev wsX20 : List Cond := u_ws RX2 TX2 7
theorem nmX2 : ∀ a, a < 7 → ∀ b, b < 7 → a ≠ b → (TX2 a).2.1 ≠ (TX2 b).2.1 := by decide +kernel
theorem tyX2_ok : ∀ k, k < 7 → parseFieldDescriptor (TX2 k).2.2.1 = some (tyX2 k) := by decide +kernel
abbrev cX2_init : ByteArray := prog_4_method_1_code
def yX2_init : MethodName := ⟨RX2, "<init>", "(I)V"⟩
abbrev cX2_become : ByteArray := prog_4_method_2_code
def yX2_become : MethodName := ⟨RX2, "become", "(IIII[I)V"⟩
def RX3 : String := "EachIsHit$Sheet"
def TX3 : u_T := fun k => match k with
  | 0 => ("EachIsHit$Sheet", "row", "[J", true)
  | 1 => ("EachIsHit$Sheet", "sort", "I", false)
  | _ => ("EachIsHit$Sheet", "places", "I", false)
def tyX3 : Nat → FieldType := fun k => match k with
  | 0 => .array .long
  | 1 => .int
  | _ => .int
abbrev wsX30 : List Cond := u_ws RX3 TX3 3
theorem nmX3 : ∀ a, a < 3 → ∀ b, b < 3 → a ≠ b → (TX3 a).2.1 ≠ (TX3 b).2.1 := by decide +kernel
theorem tyX3_ok : ∀ k, k < 3 → parseFieldDescriptor (TX3 k).2.2.1 = some (tyX3 k) := by decide +kernel
abbrev cX3_init : ByteArray := prog_5_method_1_code
def yX3_init : MethodName := ⟨RX3, "<init>", "()V"⟩
abbrev cX3_become : ByteArray := prog_5_method_2_code
def yX3_become : MethodName := ⟨RX3, "become", "(II)V"⟩
abbrev cX3_put : ByteArray := prog_5_method_3_code
def yX3_put : MethodName := ⟨RX3, "put", "(IJ)Z"⟩
abbrev cX3_packedAt : ByteArray := prog_5_method_4_code
def yX3_packedAt : MethodName := ⟨RX3, "packedAt", "(I)I"⟩
def RX4 : String := "EachIsHit$Stock"
def TX4 : u_T := fun k => match k with
  | 0 => ("EachIsHit$Stock", "prices", "[I", true)
  | 1 => ("EachIsHit$Stock", "families", "[LEachIsHit$Family;", true)
  | _ => ("EachIsHit$Stock", "rules", "I", false)
def tyX4 : Nat → FieldType := fun k => match k with
  | 0 => .array .int
  | 1 => .array (.object "EachIsHit$Family")
  | _ => .int
abbrev wsX40 : List Cond := u_ws RX4 TX4 3
theorem nmX4 : ∀ a, a < 3 → ∀ b, b < 3 → a ≠ b → (TX4 a).2.1 ≠ (TX4 b).2.1 := by decide +kernel
theorem tyX4_ok : ∀ k, k < 3 → parseFieldDescriptor (TX4 k).2.2.1 = some (tyX4 k) := by decide +kernel
abbrev cX4_init : ByteArray := prog_6_method_1_code
def yX4_init : MethodName := ⟨RX4, "<init>", "()V"⟩
abbrev cX4_become : ByteArray := prog_6_method_2_code
def yX4_become : MethodName := ⟨RX4, "become", "(LEachIsHit$Stock;)V"⟩
abbrev cX4_heldInAll : ByteArray := prog_6_method_3_code
def yX4_heldInAll : MethodName := ⟨RX4, "heldInAll", "()I"⟩
def RX5 : String := "EachIsHit$Table"
def TX5 : u_T := fun k => match k with
  | 0 => ("EachIsHit$Table", "words", "[J", true)
  | _ => ("EachIsHit$Table", "supports", "[I", true)
def tyX5 : Nat → FieldType := fun k => match k with
  | 0 => .array .long
  | _ => .array .int
abbrev wsX50 : List Cond := u_ws RX5 TX5 2
theorem nmX5 : ∀ a, a < 2 → ∀ b, b < 2 → a ≠ b → (TX5 a).2.1 ≠ (TX5 b).2.1 := by decide +kernel
theorem tyX5_ok : ∀ k, k < 2 → parseFieldDescriptor (TX5 k).2.2.1 = some (tyX5 k) := by decide +kernel
abbrev cX5_init : ByteArray := prog_7_method_1_code
def yX5_init : MethodName := ⟨RX5, "<init>", "()V"⟩
abbrev cX5_put : ByteArray := prog_7_method_2_code
def yX5_put : MethodName := ⟨RX5, "put", "(I)V"⟩
abbrev cX5_has : ByteArray := prog_7_method_3_code
def yX5_has : MethodName := ⟨RX5, "has", "(I)Z"⟩
abbrev cX5_flip : ByteArray := prog_7_method_4_code
def yX5_flip : MethodName := ⟨RX5, "flip", "()V"⟩
abbrev cX5_addParts : ByteArray := prog_7_method_5_code
def yX5_addParts : MethodName := ⟨RX5, "addParts", "()V"⟩
abbrev cX5_addWholes : ByteArray := prog_7_method_6_code
def yX5_addWholes : MethodName := ⟨RX5, "addWholes", "()V"⟩
abbrev cX5_becomeSetsOf : ByteArray := prog_7_method_7_code
def yX5_becomeSetsOf : MethodName := ⟨RX5, "becomeSetsOf", "(LEachIsHit$Family;)V"⟩
abbrev cX5_becomeHitting : ByteArray := prog_7_method_8_code
def yX5_becomeHitting : MethodName := ⟨RX5, "becomeHitting", "(LEachIsHit$Family;)V"⟩
abbrev cX5_becomeTelling : ByteArray := prog_7_method_9_code
def yX5_becomeTelling : MethodName := ⟨RX5, "becomeTelling", "(LEachIsHit$Family;)V"⟩
abbrev cX5_becomeOdd : ByteArray := prog_7_method_10_code
def yX5_becomeOdd : MethodName := ⟨RX5, "becomeOdd", "(LEachIsHit$Family;)V"⟩
abbrev cX5_keepOdd : ByteArray := prog_7_method_11_code
def yX5_keepOdd : MethodName := ⟨RX5, "keepOdd", "(I)V"⟩
abbrev cX5_becomeCommon : ByteArray := prog_7_method_12_code
def yX5_becomeCommon : MethodName := ⟨RX5, "becomeCommon", "(LEachIsHit$Family;I)V"⟩
abbrev cX5_commonWord : ByteArray := prog_7_method_13_code
def yX5_commonWord : MethodName := ⟨RX5, "commonWord", "(LEachIsHit$Family;II)J"⟩
abbrev cX5_becomeLeastOf : ByteArray := prog_7_method_14_code
def yX5_becomeLeastOf : MethodName := ⟨RX5, "becomeLeastOf", "(LEachIsHit$Table;)V"⟩
abbrev cX5_becomeGreatestOf : ByteArray := prog_7_method_15_code
def yX5_becomeGreatestOf : MethodName := ⟨RX5, "becomeGreatestOf", "(LEachIsHit$Table;)V"⟩
abbrev cX5_countAll : ByteArray := prog_7_method_16_code
def yX5_countAll : MethodName := ⟨RX5, "countAll", "()I"⟩
abbrev cX5_countOf : ByteArray := prog_7_method_17_code
def yX5_countOf : MethodName := ⟨RX5, "countOf", "(I)I"⟩
abbrev cX5_pick : ByteArray := prog_7_method_18_code
def yX5_pick : MethodName := ⟨RX5, "pick", "(I)I"⟩
abbrev cX5_placeOfBit : ByteArray := prog_7_method_19_code
def yX5_placeOfBit : MethodName := ⟨RX5, "placeOfBit", "(JI)I"⟩
abbrev cX5_next : ByteArray := prog_7_method_20_code
def yX5_next : MethodName := ⟨RX5, "next", "(I)I"⟩
def RX6 : String := "EachIsHit$Walk"
def TX6 : u_T := fun k => match k with
  | 0 => ("EachIsHit$Walk", "rows", "[[I", true)
  | 1 => ("EachIsHit$Walk", "wanted", "I", false)
  | 2 => ("EachIsHit$Walk", "nodes", "I", false)
  | 3 => ("EachIsHit$Walk", "deepest", "I", false)
  | 4 => ("EachIsHit$Walk", "bare", "I", false)
  | 5 => ("EachIsHit$Walk", "isFound", "Z", false)
  | 6 => ("EachIsHit$Walk", "point", "I", false)
  | 7 => ("EachIsHit$Walk", "sets", "I", false)
  | 8 => ("EachIsHit$Walk", "depth", "I", false)
  | _ => ("EachIsHit$Walk", "had", "I", false)
def tyX6 : Nat → FieldType := fun k => match k with
  | 0 => .array (.array .int)
  | 1 => .int
  | 2 => .int
  | 3 => .int
  | 4 => .int
  | 5 => .boolean
  | 6 => .int
  | 7 => .int
  | 8 => .int
  | _ => .int
abbrev wsX60 : List Cond := u_ws RX6 TX6 10
theorem nmX6 : ∀ a, a < 10 → ∀ b, b < 10 → a ≠ b → (TX6 a).2.1 ≠ (TX6 b).2.1 := by decide +kernel
theorem tyX6_ok : ∀ k, k < 10 → parseFieldDescriptor (TX6 k).2.2.1 = some (tyX6 k) := by decide +kernel
abbrev cX6_init : ByteArray := prog_8_method_1_code
def yX6_init : MethodName := ⟨RX6, "<init>", "()V"⟩
abbrev cX6_start : ByteArray := prog_8_method_2_code
def yX6_start : MethodName := ⟨RX6, "start", "(LEachIsHit$Family;I)V"⟩
abbrev cX6_visit : ByteArray := prog_8_method_3_code
def yX6_visit : MethodName := ⟨RX6, "visit", "(III)V"⟩
abbrev cX6_keepWithout : ByteArray := prog_8_method_4_code
def yX6_keepWithout : MethodName := ⟨RX6, "keepWithout", "(III)I"⟩
abbrev cX6_keepReduced : ByteArray := prog_8_method_5_code
def yX6_keepReduced : MethodName := ⟨RX6, "keepReduced", "(III)I"⟩
abbrev cX6_hasPartIn : ByteArray := prog_8_method_6_code
def yX6_hasPartIn : MethodName := ⟨RX6, "hasPartIn", "([III)Z"⟩
def RX7 : String := "EachIsHit"
def TX7 : u_T := fun k => match k with
  | 0 => ("EachIsHit", "now", "LEachIsHit$Stock;", true)
  | 1 => ("EachIsHit", "kept", "LEachIsHit$Stock;", true)
  | 2 => ("EachIsHit", "isKept", "Z", false)
  | 3 => ("EachIsHit", "rules", "[LEachIsHit$Rule;", true)
  | 4 => ("EachIsHit", "acts", "LEachIsHit$Acts;", true)
  | 5 => ("EachIsHit", "sheets", "[LEachIsHit$Sheet;", true)
  | 6 => ("EachIsHit", "walk", "LEachIsHit$Walk;", true)
  | 7 => ("EachIsHit", "spare", "LEachIsHit$Family;", true)
  | 8 => ("EachIsHit", "hits", "LEachIsHit$Table;", true)
  | 9 => ("EachIsHit", "least", "LEachIsHit$Table;", true)
  | _ => ("EachIsHit", "worths", "[I", true)
def tyX7 : Nat → FieldType := fun k => match k with
  | 0 => .object "EachIsHit$Stock"
  | 1 => .object "EachIsHit$Stock"
  | 2 => .boolean
  | 3 => .array (.object "EachIsHit$Rule")
  | 4 => .object "EachIsHit$Acts"
  | 5 => .array (.object "EachIsHit$Sheet")
  | 6 => .object "EachIsHit$Walk"
  | 7 => .object "EachIsHit$Family"
  | 8 => .object "EachIsHit$Table"
  | 9 => .object "EachIsHit$Table"
  | _ => .array .int
abbrev wsX70 : List Cond := u_ws RX7 TX7 11
theorem nmX7 : ∀ a, a < 11 → ∀ b, b < 11 → a ≠ b → (TX7 a).2.1 ≠ (TX7 b).2.1 := by decide +kernel
theorem tyX7_ok : ∀ k, k < 11 → parseFieldDescriptor (TX7 k).2.2.1 = some (tyX7 k) := by decide +kernel
abbrev cX7_init : ByteArray := prog_1_method_1_code
def yX7_init : MethodName := ⟨RX7, "<init>", "()V"⟩
abbrev cX7_price : ByteArray := prog_1_method_2_code
def yX7_price : MethodName := ⟨RX7, "price", "(II)I"⟩
abbrev cX7_priceOf : ByteArray := prog_1_method_3_code
def yX7_priceOf : MethodName := ⟨RX7, "priceOf", "(I)I"⟩
abbrev cX7_tell : ByteArray := prog_1_method_4_code
def yX7_tell : MethodName := ⟨RX7, "tell", "(II)I"⟩
abbrev cX7_take : ByteArray := prog_1_method_5_code
def yX7_take : MethodName := ⟨RX7, "take", "(II)I"⟩
abbrev cX7_tally : ByteArray := prog_1_method_6_code
def yX7_tally : MethodName := ⟨RX7, "tally", "(II)I"⟩
abbrev cX7_at : ByteArray := prog_1_method_7_code
def yX7_at : MethodName := ⟨RX7, "at", "(II)I"⟩
abbrev cX7_size : ByteArray := prog_1_method_8_code
def yX7_size : MethodName := ⟨RX7, "size", "(I)I"⟩
abbrev cX7_wipe : ByteArray := prog_1_method_9_code
def yX7_wipe : MethodName := ⟨RX7, "wipe", "(I)I"⟩
abbrev cX7_copy : ByteArray := prog_1_method_10_code
def yX7_copy : MethodName := ⟨RX7, "copy", "(II)I"⟩
abbrev cX7_undo : ByteArray := prog_1_method_11_code
def yX7_undo : MethodName := ⟨RX7, "undo", "()I"⟩
abbrev cX7_often : ByteArray := prog_1_method_12_code
def yX7_often : MethodName := ⟨RX7, "often", "(II)I"⟩
abbrev cX7_top : ByteArray := prog_1_method_13_code
def yX7_top : MethodName := ⟨RX7, "top", "(I)I"⟩
abbrev cX7_isSimple : ByteArray := prog_1_method_14_code
def yX7_isSimple : MethodName := ⟨RX7, "isSimple", "(I)I"⟩
abbrev cX7_lean : ByteArray := prog_1_method_15_code
def yX7_lean : MethodName := ⟨RX7, "lean", "(I)I"⟩
abbrev cX7_test : ByteArray := prog_1_method_16_code
def yX7_test : MethodName := ⟨RX7, "test", "(III)I"⟩
abbrev cX7_counted : ByteArray := prog_1_method_17_code
def yX7_counted : MethodName := ⟨RX7, "counted", "(IIII)I"⟩
abbrev cX7_dual : ByteArray := prog_1_method_18_code
def yX7_dual : MethodName := ⟨RX7, "dual", "(II)I"⟩
abbrev cX7_into : ByteArray := prog_1_method_19_code
def yX7_into : MethodName := ⟨RX7, "into", "(II)I"⟩
abbrev cX7_verdict : ByteArray := prog_1_method_20_code
def yX7_verdict : MethodName := ⟨RX7, "verdict", "(III)I"⟩
abbrev cX7_tree : ByteArray := prog_1_method_21_code
def yX7_tree : MethodName := ⟨RX7, "tree", "(II)I"⟩
abbrev cX7_node : ByteArray := prog_1_method_22_code
def yX7_node : MethodName := ⟨RX7, "node", "(III)I"⟩
abbrev cX7_keys : ByteArray := prog_1_method_23_code
def yX7_keys : MethodName := ⟨RX7, "keys", "(II)I"⟩
abbrev cX7_support : ByteArray := prog_1_method_24_code
def yX7_support : MethodName := ⟨RX7, "support", "(II)I"⟩
abbrev cX7_border : ByteArray := prog_1_method_25_code
def yX7_border : MethodName := ⟨RX7, "border", "(IIII)I"⟩
abbrev cX7_make : ByteArray := prog_1_method_26_code
def yX7_make : MethodName := ⟨RX7, "make", "(IIII)I"⟩
abbrev cX7_rule : ByteArray := prog_1_method_27_code
def yX7_rule : MethodName := ⟨RX7, "rule", "(IIII)I"⟩
abbrev cX7_worth : ByteArray := prog_1_method_28_code
def yX7_worth : MethodName := ⟨RX7, "worth", "(II)I"⟩
abbrev cX7_best : ByteArray := prog_1_method_29_code
def yX7_best : MethodName := ⟨RX7, "best", "(III)I"⟩
abbrev cX7_ranked : ByteArray := prog_1_method_30_code
def yX7_ranked : MethodName := ⟨RX7, "ranked", "(III)I"⟩
abbrev cX7_sums : ByteArray := prog_1_method_31_code
def yX7_sums : MethodName := ⟨RX7, "sums", "(II)I"⟩
abbrev cX7_sheet : ByteArray := prog_1_method_32_code
def yX7_sheet : MethodName := ⟨RX7, "sheet", "(III)I"⟩
abbrev cX7_cell : ByteArray := prog_1_method_33_code
def yX7_cell : MethodName := ⟨RX7, "cell", "(IIJ)I"⟩
abbrev cX7_read : ByteArray := prog_1_method_34_code
def yX7_read : MethodName := ⟨RX7, "read", "(II)J"⟩
abbrev cX7_packs : ByteArray := prog_1_method_35_code
def yX7_packs : MethodName := ⟨RX7, "packs", "(II)I"⟩
abbrev cX7_unpacks : ByteArray := prog_1_method_36_code
def yX7_unpacks : MethodName := ⟨RX7, "unpacks", "(III)I"⟩
abbrev cX7_freqs : ByteArray := prog_1_method_37_code
def yX7_freqs : MethodName := ⟨RX7, "freqs", "(II)I"⟩
abbrev cX7_image : ByteArray := prog_1_method_38_code
def yX7_image : MethodName := ⟨RX7, "image", "()I"⟩
abbrev cX7_back : ByteArray := prog_1_method_39_code
def yX7_back : MethodName := ⟨RX7, "back", "()I"⟩
abbrev cX7_count : ByteArray := prog_1_method_40_code
def yX7_count : MethodName := ⟨RX7, "count", "(I)I"⟩
abbrev cX7_isNoPoint : ByteArray := prog_1_method_41_code
def yX7_isNoPoint : MethodName := ⟨RX7, "isNoPoint", "(I)Z"⟩
abbrev cX7_isNoSet : ByteArray := prog_1_method_42_code
def yX7_isNoSet : MethodName := ⟨RX7, "isNoSet", "(I)Z"⟩
abbrev cX7_isNoFamily : ByteArray := prog_1_method_43_code
def yX7_isNoFamily : MethodName := ⟨RX7, "isNoFamily", "(I)Z"⟩
abbrev cX7_isNoSheet : ByteArray := prog_1_method_44_code
def yX7_isNoSheet : MethodName := ⟨RX7, "isNoSheet", "(I)Z"⟩
abbrev cX7_isNoTest : ByteArray := prog_1_method_45_code
def yX7_isNoTest : MethodName := ⟨RX7, "isNoTest", "(I)Z"⟩
abbrev cX7_isNoRule : ByteArray := prog_1_method_46_code
def yX7_isNoRule : MethodName := ⟨RX7, "isNoRule", "(I)Z"⟩
abbrev cX7_hasPoint : ByteArray := prog_1_method_47_code
def yX7_hasPoint : MethodName := ⟨RX7, "hasPoint", "(II)Z"⟩
abbrev cX7_isPart : ByteArray := prog_1_method_48_code
def yX7_isPart : MethodName := ⟨RX7, "isPart", "(II)Z"⟩
abbrev cX7_topPoint : ByteArray := prog_1_method_49_code
def yX7_topPoint : MethodName := ⟨RX7, "topPoint", "([II)I"⟩
abbrev cX7_findDual : ByteArray := prog_1_method_50_code
def yX7_findDual : MethodName := ⟨RX7, "findDual", "(LEachIsHit$Family;)V"⟩
abbrev cX7_tableOf : ByteArray := prog_1_method_51_code
def yX7_tableOf : MethodName := ⟨RX7, "tableOf", "(ILEachIsHit$Family;)LEachIsHit$Table;"⟩
abbrev cX7_listed : ByteArray := prog_1_method_52_code
def yX7_listed : MethodName := ⟨RX7, "listed", "(LEachIsHit$Table;I)I"⟩
abbrev cX7_firstNotHeld : ByteArray := prog_1_method_53_code
def yX7_firstNotHeld : MethodName := ⟨RX7, "firstNotHeld", "(LEachIsHit$Table;LEachIsHit$Family;)I"⟩
abbrev cX7_canMake : ByteArray := prog_1_method_54_code
def yX7_canMake : MethodName := ⟨RX7, "canMake", "(III)Z"⟩
abbrev cX7_fillSpare : ByteArray := prog_1_method_55_code
def yX7_fillSpare : MethodName := ⟨RX7, "fillSpare", "(III)Z"⟩
abbrev cX7_madeSet : ByteArray := prog_1_method_56_code
def yX7_madeSet : MethodName := ⟨RX7, "madeSet", "(IIII)I"⟩
abbrev cX7_ringSet : ByteArray := prog_1_method_57_code
def yX7_ringSet : MethodName := ⟨RX7, "ringSet", "(III)I"⟩
abbrev cX7_classSet : ByteArray := prog_1_method_58_code
def yX7_classSet : MethodName := ⟨RX7, "classSet", "(II)I"⟩
abbrev cX7_asksFirst : ByteArray := prog_1_method_59_code
def yX7_asksFirst : MethodName := ⟨RX7, "asksFirst", "(I)Z"⟩
abbrev cX7_asksSecond : ByteArray := prog_1_method_60_code
def yX7_asksSecond : MethodName := ⟨RX7, "asksSecond", "(I)Z"⟩
abbrev cX7_fitsHow : ByteArray := prog_1_method_61_code
def yX7_fitsHow : MethodName := ⟨RX7, "fitsHow", "(II)Z"⟩
abbrev cX7_tellsNow : ByteArray := prog_1_method_62_code
def yX7_tellsNow : MethodName := ⟨RX7, "tellsNow", "(II)I"⟩
abbrev cX7_tells : ByteArray := prog_1_method_63_code
def yX7_tells : MethodName := ⟨RX7, "tells", "(III)I"⟩
abbrev cX7_tellsByParts : ByteArray := prog_1_method_64_code
def yX7_tellsByParts : MethodName := ⟨RX7, "tellsByParts", "(LEachIsHit$Rule;II)I"⟩
abbrev cX7_tellsAlone : ByteArray := prog_1_method_65_code
def yX7_tellsAlone : MethodName := ⟨RX7, "tellsAlone", "(LEachIsHit$Rule;I)I"⟩
abbrev cX7_shifted : ByteArray := prog_1_method_66_code
def yX7_shifted : MethodName := ⟨RX7, "shifted", "(II)I"⟩
abbrev cX7_priceOfAll : ByteArray := prog_1_method_67_code
def yX7_priceOfAll : MethodName := ⟨RX7, "priceOfAll", "(I[I)I"⟩
abbrev cX7_dearest : ByteArray := prog_1_method_68_code
def yX7_dearest : MethodName := ⟨RX7, "dearest", "(I[I)I"⟩
abbrev cX7_rankOf : ByteArray := prog_1_method_69_code
def yX7_rankOf : MethodName := ⟨RX7, "rankOf", "(II)I"⟩
def RX8 : String := "EachIsHitModel"
def TX8 : u_T := fun k => match k with
  | 0 => ("EachIsHitModel", "price", "[I", true)
  | 1 => ("EachIsHitModel", "sizes", "[I", true)
  | 2 => ("EachIsHitModel", "sets", "[I", true)
  | 3 => ("EachIsHitModel", "tallies", "[I", true)
  | 4 => ("EachIsHitModel", "rules", "I", false)
  | 5 => ("EachIsHitModel", "ruleHow", "[I", true)
  | 6 => ("EachIsHitModel", "ruleA", "[I", true)
  | 7 => ("EachIsHitModel", "ruleB", "[I", true)
  | 8 => ("EachIsHitModel", "ruleC", "[I", true)
  | 9 => ("EachIsHitModel", "rulePrice", "[I", true)
  | 10 => ("EachIsHitModel", "acts", "I", false)
  | 11 => ("EachIsHitModel", "actSort", "[I", true)
  | 12 => ("EachIsHitModel", "actOf", "[I", true)
  | 13 => ("EachIsHitModel", "actV", "[I", true)
  | 14 => ("EachIsHitModel", "goes", "[Z", true)
  | 15 => ("EachIsHitModel", "wanted", "[I", true)
  | 16 => ("EachIsHitModel", "wantedMany", "I", false)
  | 17 => ("EachIsHitModel", "least", "[I", true)
  | 18 => ("EachIsHitModel", "leastMany", "I", false)
  | 19 => ("EachIsHitModel", "row", "[I", true)
  | 20 => ("EachIsHitModel", "nodes", "I", false)
  | 21 => ("EachIsHitModel", "deepest", "I", false)
  | 22 => ("EachIsHitModel", "barren", "I", false)
  | 23 => ("EachIsHitModel", "soughtNode", "I", false)
  | 24 => ("EachIsHitModel", "soughtPoint", "I", false)
  | 25 => ("EachIsHitModel", "soughtMany", "I", false)
  | 26 => ("EachIsHitModel", "soughtDepth", "I", false)
  | 27 => ("EachIsHitModel", "soughtHad", "I", false)
  | 28 => ("EachIsHitModel", "isCommon", "[Z", true)
  | 29 => ("EachIsHitModel", "worths", "[I", true)
  | 30 => ("EachIsHitModel", "sorts", "[I", true)
  | 31 => ("EachIsHitModel", "long0", "[I", true)
  | 32 => ("EachIsHitModel", "cells", "[J", true)
  | 33 => ("EachIsHitModel", "isKept", "Z", false)
  | 34 => ("EachIsHitModel", "keptPrice", "[I", true)
  | 35 => ("EachIsHitModel", "keptSizes", "[I", true)
  | 36 => ("EachIsHitModel", "keptSets", "[I", true)
  | 37 => ("EachIsHitModel", "keptTallies", "[I", true)
  | _ => ("EachIsHitModel", "keptRules", "I", false)
def tyX8 : Nat → FieldType := fun k => match k with
  | 0 => .array .int
  | 1 => .array .int
  | 2 => .array .int
  | 3 => .array .int
  | 4 => .int
  | 5 => .array .int
  | 6 => .array .int
  | 7 => .array .int
  | 8 => .array .int
  | 9 => .array .int
  | 10 => .int
  | 11 => .array .int
  | 12 => .array .int
  | 13 => .array .int
  | 14 => .array .boolean
  | 15 => .array .int
  | 16 => .int
  | 17 => .array .int
  | 18 => .int
  | 19 => .array .int
  | 20 => .int
  | 21 => .int
  | 22 => .int
  | 23 => .int
  | 24 => .int
  | 25 => .int
  | 26 => .int
  | 27 => .int
  | 28 => .array .boolean
  | 29 => .array .int
  | 30 => .array .int
  | 31 => .array .int
  | 32 => .array .long
  | 33 => .boolean
  | 34 => .array .int
  | 35 => .array .int
  | 36 => .array .int
  | 37 => .array .int
  | _ => .int
abbrev wsX80 : List Cond := u_ws RX8 TX8 39
theorem nmX8 : ∀ a, a < 39 → ∀ b, b < 39 → a ≠ b → (TX8 a).2.1 ≠ (TX8 b).2.1 := by decide +kernel
theorem tyX8_ok : ∀ k, k < 39 → parseFieldDescriptor (TX8 k).2.2.1 = some (tyX8 k) := by decide +kernel
abbrev cX8_init : ByteArray := prog_10_method_1_code
def yX8_init : MethodName := ⟨RX8, "<init>", "()V"⟩
abbrev cX8_in : ByteArray := prog_10_method_2_code
def yX8_in : MethodName := ⟨RX8, "in", "(JJJ)Z"⟩
abbrev cX8_isPoint : ByteArray := prog_10_method_3_code
def yX8_isPoint : MethodName := ⟨RX8, "isPoint", "(I)Z"⟩
abbrev cX8_isSet : ByteArray := prog_10_method_4_code
def yX8_isSet : MethodName := ⟨RX8, "isSet", "(I)Z"⟩
abbrev cX8_isFamily : ByteArray := prog_10_method_5_code
def yX8_isFamily : MethodName := ⟨RX8, "isFamily", "(I)Z"⟩
abbrev cX8_isRule : ByteArray := prog_10_method_6_code
def yX8_isRule : MethodName := ⟨RX8, "isRule", "(I)Z"⟩
abbrev cX8_has : ByteArray := prog_10_method_7_code
def yX8_has : MethodName := ⟨RX8, "has", "(II)Z"⟩
abbrev cX8_many : ByteArray := prog_10_method_8_code
def yX8_many : MethodName := ⟨RX8, "many", "(I)I"⟩
abbrev cX8_isPart : ByteArray := prog_10_method_9_code
def yX8_isPart : MethodName := ⟨RX8, "isPart", "(II)Z"⟩
abbrev cX8_setOf : ByteArray := prog_10_method_10_code
def yX8_setOf : MethodName := ⟨RX8, "setOf", "(II)I"⟩
abbrev cX8_remembers : ByteArray := prog_10_method_11_code
def yX8_remembers : MethodName := ⟨RX8, "remembers", "(III)V"⟩
abbrev cX8_price : ByteArray := prog_10_method_12_code
def yX8_price : MethodName := ⟨RX8, "price", "(II)I"⟩
abbrev cX8_priceOf : ByteArray := prog_10_method_13_code
def yX8_priceOf : MethodName := ⟨RX8, "priceOf", "(I)I"⟩
abbrev cX8_placeOf : ByteArray := prog_10_method_14_code
def yX8_placeOf : MethodName := ⟨RX8, "placeOf", "(II)I"⟩
abbrev cX8_tells : ByteArray := prog_10_method_15_code
def yX8_tells : MethodName := ⟨RX8, "tells", "(II)I"⟩
abbrev cX8_drops : ByteArray := prog_10_method_16_code
def yX8_drops : MethodName := ⟨RX8, "drops", "(II)V"⟩
abbrev cX8_takes : ByteArray := prog_10_method_17_code
def yX8_takes : MethodName := ⟨RX8, "takes", "(II)I"⟩
abbrev cX8_tallyOf : ByteArray := prog_10_method_18_code
def yX8_tallyOf : MethodName := ⟨RX8, "tallyOf", "(II)I"⟩
abbrev cX8_tell : ByteArray := prog_10_method_19_code
def yX8_tell : MethodName := ⟨RX8, "tell", "(II)I"⟩
abbrev cX8_take : ByteArray := prog_10_method_20_code
def yX8_take : MethodName := ⟨RX8, "take", "(II)I"⟩
abbrev cX8_tally : ByteArray := prog_10_method_21_code
def yX8_tally : MethodName := ⟨RX8, "tally", "(II)I"⟩
abbrev cX8_at : ByteArray := prog_10_method_22_code
def yX8_at : MethodName := ⟨RX8, "at", "(II)I"⟩
abbrev cX8_size : ByteArray := prog_10_method_23_code
def yX8_size : MethodName := ⟨RX8, "size", "(I)I"⟩
abbrev cX8_wipe : ByteArray := prog_10_method_24_code
def yX8_wipe : MethodName := ⟨RX8, "wipe", "(I)I"⟩
abbrev cX8_copy : ByteArray := prog_10_method_25_code
def yX8_copy : MethodName := ⟨RX8, "copy", "(II)I"⟩
abbrev cX8_undo : ByteArray := prog_10_method_26_code
def yX8_undo : MethodName := ⟨RX8, "undo", "()I"⟩
abbrev cX8_oftenIn : ByteArray := prog_10_method_27_code
def yX8_oftenIn : MethodName := ⟨RX8, "oftenIn", "(II)I"⟩
abbrev cX8_often : ByteArray := prog_10_method_28_code
def yX8_often : MethodName := ⟨RX8, "often", "(II)I"⟩
abbrev cX8_top : ByteArray := prog_10_method_29_code
def yX8_top : MethodName := ⟨RX8, "top", "(I)I"⟩
abbrev cX8_hasPart : ByteArray := prog_10_method_30_code
def yX8_hasPart : MethodName := ⟨RX8, "hasPart", "(II)Z"⟩
abbrev cX8_isSimple : ByteArray := prog_10_method_31_code
def yX8_isSimple : MethodName := ⟨RX8, "isSimple", "(I)I"⟩
abbrev cX8_lean : ByteArray := prog_10_method_32_code
def yX8_lean : MethodName := ⟨RX8, "lean", "(I)I"⟩
abbrev cX8_wants : ByteArray := prog_10_method_33_code
def yX8_wants : MethodName := ⟨RX8, "wants", "(I)V"⟩
abbrev cX8_hits : ByteArray := prog_10_method_34_code
def yX8_hits : MethodName := ⟨RX8, "hits", "(I)I"⟩
abbrev cX8_does : ByteArray := prog_10_method_35_code
def yX8_does : MethodName := ⟨RX8, "does", "(III)Z"⟩
abbrev cX8_isTest : ByteArray := prog_10_method_36_code
def yX8_isTest : MethodName := ⟨RX8, "isTest", "(I)Z"⟩
abbrev cX8_test : ByteArray := prog_10_method_37_code
def yX8_test : MethodName := ⟨RX8, "test", "(III)I"⟩
abbrev cX8_counted : ByteArray := prog_10_method_38_code
def yX8_counted : MethodName := ⟨RX8, "counted", "(IIII)I"⟩
abbrev cX8_findsLeast : ByteArray := prog_10_method_39_code
def yX8_findsLeast : MethodName := ⟨RX8, "findsLeast", "()V"⟩
abbrev cX8_findsDual : ByteArray := prog_10_method_40_code
def yX8_findsDual : MethodName := ⟨RX8, "findsDual", "(I)V"⟩
abbrev cX8_leastAt : ByteArray := prog_10_method_41_code
def yX8_leastAt : MethodName := ⟨RX8, "leastAt", "(I)I"⟩
abbrev cX8_dual : ByteArray := prog_10_method_42_code
def yX8_dual : MethodName := ⟨RX8, "dual", "(II)I"⟩
abbrev cX8_into : ByteArray := prog_10_method_43_code
def yX8_into : MethodName := ⟨RX8, "into", "(II)I"⟩
abbrev cX8_verdict : ByteArray := prog_10_method_44_code
def yX8_verdict : MethodName := ⟨RX8, "verdict", "(III)I"⟩
abbrev cX8_thins : ByteArray := prog_10_method_45_code
def yX8_thins : MethodName := ⟨RX8, "thins", "(II)I"⟩
abbrev cX8_topOf : ByteArray := prog_10_method_46_code
def yX8_topOf : MethodName := ⟨RX8, "topOf", "(II)I"⟩
abbrev cX8_grows : ByteArray := prog_10_method_47_code
def yX8_grows : MethodName := ⟨RX8, "grows", "(III)V"⟩
abbrev cX8_findsTree : ByteArray := prog_10_method_48_code
def yX8_findsTree : MethodName := ⟨RX8, "findsTree", "(II)V"⟩
abbrev cX8_tree : ByteArray := prog_10_method_49_code
def yX8_tree : MethodName := ⟨RX8, "tree", "(II)I"⟩
abbrev cX8_node : ByteArray := prog_10_method_50_code
def yX8_node : MethodName := ⟨RX8, "node", "(III)I"⟩
abbrev cX8_keys : ByteArray := prog_10_method_51_code
def yX8_keys : MethodName := ⟨RX8, "keys", "(II)I"⟩
abbrev cX8_supportOf : ByteArray := prog_10_method_52_code
def yX8_supportOf : MethodName := ⟨RX8, "supportOf", "(II)I"⟩
abbrev cX8_support : ByteArray := prog_10_method_53_code
def yX8_support : MethodName := ⟨RX8, "support", "(II)I"⟩
abbrev cX8_isBorder : ByteArray := prog_10_method_54_code
def yX8_isBorder : MethodName := ⟨RX8, "isBorder", "(II)Z"⟩
abbrev cX8_border : ByteArray := prog_10_method_55_code
def yX8_border : MethodName := ⟨RX8, "border", "(IIII)I"⟩
abbrev cX8_run : ByteArray := prog_10_method_56_code
def yX8_run : MethodName := ⟨RX8, "run", "(III)I"⟩
abbrev cX8_rest : ByteArray := prog_10_method_57_code
def yX8_rest : MethodName := ⟨RX8, "rest", "(II)I"⟩
abbrev cX8_canMake : ByteArray := prog_10_method_58_code
def yX8_canMake : MethodName := ⟨RX8, "canMake", "(III)Z"⟩
abbrev cX8_make : ByteArray := prog_10_method_59_code
def yX8_make : MethodName := ⟨RX8, "make", "(IIII)I"⟩
abbrev cX8_isOfA : ByteArray := prog_10_method_60_code
def yX8_isOfA : MethodName := ⟨RX8, "isOfA", "(I)Z"⟩
abbrev cX8_isC : ByteArray := prog_10_method_61_code
def yX8_isC : MethodName := ⟨RX8, "isC", "(II)Z"⟩
abbrev cX8_rule : ByteArray := prog_10_method_62_code
def yX8_rule : MethodName := ⟨RX8, "rule", "(IIII)I"⟩
abbrev cX8_first : ByteArray := prog_10_method_63_code
def yX8_first : MethodName := ⟨RX8, "first", "(II)I"⟩
abbrev cX8_metBy : ByteArray := prog_10_method_64_code
def yX8_metBy : MethodName := ⟨RX8, "metBy", "(II)I"⟩
abbrev cX8_worthOf : ByteArray := prog_10_method_65_code
def yX8_worthOf : MethodName := ⟨RX8, "worthOf", "(II)I"⟩
abbrev cX8_worth : ByteArray := prog_10_method_66_code
def yX8_worth : MethodName := ⟨RX8, "worth", "(II)I"⟩
abbrev cX8_best : ByteArray := prog_10_method_67_code
def yX8_best : MethodName := ⟨RX8, "best", "(III)I"⟩
abbrev cX8_ranked : ByteArray := prog_10_method_68_code
def yX8_ranked : MethodName := ⟨RX8, "ranked", "(III)I"⟩
abbrev cX8_sums : ByteArray := prog_10_method_69_code
def yX8_sums : MethodName := ⟨RX8, "sums", "(II)I"⟩
abbrev cX8_isSheet : ByteArray := prog_10_method_70_code
def yX8_isSheet : MethodName := ⟨RX8, "isSheet", "(I)Z"⟩
abbrev cX8_sheet : ByteArray := prog_10_method_71_code
def yX8_sheet : MethodName := ⟨RX8, "sheet", "(III)I"⟩
abbrev cX8_wrong : ByteArray := prog_10_method_72_code
def yX8_wrong : MethodName := ⟨RX8, "wrong", "(II)I"⟩
abbrev cX8_cell : ByteArray := prog_10_method_73_code
def yX8_cell : MethodName := ⟨RX8, "cell", "(IIJ)I"⟩
abbrev cX8_read : ByteArray := prog_10_method_74_code
def yX8_read : MethodName := ⟨RX8, "read", "(II)J"⟩
abbrev cX8_noLongs : ByteArray := prog_10_method_75_code
def yX8_noLongs : MethodName := ⟨RX8, "noLongs", "(I)I"⟩
abbrev cX8_packs : ByteArray := prog_10_method_76_code
def yX8_packs : MethodName := ⟨RX8, "packs", "(II)I"⟩
abbrev cX8_unpacks : ByteArray := prog_10_method_77_code
def yX8_unpacks : MethodName := ⟨RX8, "unpacks", "(III)I"⟩
abbrev cX8_freqs : ByteArray := prog_10_method_78_code
def yX8_freqs : MethodName := ⟨RX8, "freqs", "(II)I"⟩
abbrev cX8_allHeld : ByteArray := prog_10_method_79_code
def yX8_allHeld : MethodName := ⟨RX8, "allHeld", "()I"⟩
abbrev cX8_copies : ByteArray := prog_10_method_80_code
def yX8_copies : MethodName := ⟨RX8, "copies", "([I[I)V"⟩
abbrev cX8_image : ByteArray := prog_10_method_81_code
def yX8_image : MethodName := ⟨RX8, "image", "()I"⟩
abbrev cX8_back : ByteArray := prog_10_method_82_code
def yX8_back : MethodName := ⟨RX8, "back", "()I"⟩
abbrev cX8_count : ByteArray := prog_10_method_83_code
def yX8_count : MethodName := ⟨RX8, "count", "(I)I"⟩
def RJ6 : String := "java/lang/Integer"
def TJ6 : u_T := fun k => match k with
  | _ => ("", "", "", false)
def tyJ6 : Nat → FieldType := fun k => match k with
  | _ => .int
abbrev wsJ60 : List Cond := u_ws RJ6 TJ6 0
theorem nmJ6 : ∀ a, a < 0 → ∀ b, b < 0 → a ≠ b → (TJ6 a).2.1 ≠ (TJ6 b).2.1 := by decide +kernel
theorem tyJ6_ok : ∀ k, k < 0 → parseFieldDescriptor (TJ6 k).2.2.1 = some (tyJ6 k) := by decide +kernel
abbrev cJ6_bitCount_0f7a4 : ByteArray := prog_11_method_49_code
def yJ6_bitCount_0f7a4 : MethodName := ⟨RJ6, "bitCount", "(I)I"⟩
def RJ13 : String := "java/lang/Long"
def TJ13 : u_T := fun k => match k with
  | _ => ("", "", "", false)
def tyJ13 : Nat → FieldType := fun k => match k with
  | _ => .int
abbrev wsJ130 : List Cond := u_ws RJ13 TJ13 0
theorem nmJ13 : ∀ a, a < 0 → ∀ b, b < 0 → a ≠ b → (TJ13 a).2.1 ≠ (TJ13 b).2.1 := by decide +kernel
theorem tyJ13_ok : ∀ k, k < 0 → parseFieldDescriptor (TJ13 k).2.2.1 = some (tyJ13 k) := by decide +kernel
abbrev cJ13_bitCount_95d88 : ByteArray := prog_12_method_50_code
def yJ13_bitCount_95d88 : MethodName := ⟨RJ13, "bitCount", "(J)I"⟩
def RJ9 : String := "java/lang/Math"
def TJ9 : u_T := fun k => match k with
  | _ => ("", "", "", false)
def tyJ9 : Nat → FieldType := fun k => match k with
  | _ => .int
abbrev wsJ90 : List Cond := u_ws RJ9 TJ9 0
theorem nmJ9 : ∀ a, a < 0 → ∀ b, b < 0 → a ≠ b → (TJ9 a).2.1 ≠ (TJ9 b).2.1 := by decide +kernel
theorem tyJ9_ok : ∀ k, k < 0 → parseFieldDescriptor (TJ9 k).2.2.1 = some (tyJ9 k) := by decide +kernel
abbrev cJ9_max_7cf53 : ByteArray := prog_13_method_65_code
def yJ9_max_7cf53 : MethodName := ⟨RJ9, "max", "(II)I"⟩
abbrev cJ9_min_7cf53 : ByteArray := prog_13_method_69_code
def yJ9_min_7cf53 : MethodName := ⟨RJ9, "min", "(II)I"⟩
def RJ10 : String := "java/lang/System"
def TJ10 : u_T := fun k => match k with
  | _ => ("", "", "", false)
def tyJ10 : Nat → FieldType := fun k => match k with
  | _ => .int
abbrev wsJ100 : List Cond := u_ws RJ10 TJ10 0
theorem nmJ10 : ∀ a, a < 0 → ∀ b, b < 0 → a ≠ b → (TJ10 a).2.1 ≠ (TJ10 b).2.1 := by decide +kernel
theorem tyJ10_ok : ∀ k, k < 0 → parseFieldDescriptor (TJ10 k).2.2.1 = some (tyJ10 k) := by decide +kernel
def RJ7 : String := "java/util/Arrays"
def TJ7 : u_T := fun k => match k with
  | _ => ("", "", "", false)
def tyJ7 : Nat → FieldType := fun k => match k with
  | _ => .int
abbrev wsJ70 : List Cond := u_ws RJ7 TJ7 0
theorem nmJ7 : ∀ a, a < 0 → ∀ b, b < 0 → a ≠ b → (TJ7 a).2.1 ≠ (TJ7 b).2.1 := by decide +kernel
theorem tyJ7_ok : ∀ k, k < 0 → parseFieldDescriptor (TJ7 k).2.2.1 = some (tyJ7 k) := by decide +kernel
abbrev cJ7_fill_d0a16 : ByteArray := prog_15_method_101_code
def yJ7_fill_d0a16 : MethodName := ⟨RJ7, "fill", "([JJ)V"⟩
abbrev cJ7_fill_53178 : ByteArray := prog_15_method_103_code
def yJ7_fill_53178 : MethodName := ⟨RJ7, "fill", "([II)V"⟩
def RL : String := "EachIsHitLaw"
abbrev cL_law : ByteArray := code
def yL_law : MethodName := ⟨RL, "law", "([I)Z"⟩
end
section
/-! the words of the tables that are good at every later state -/
def z_TB : List Cond := lw_tbl.filter goodWord
theorem z_tb {w : Cond} (h : w ∈ lw_tbl) (g : goodWord w = true) : w ∈ z_TB := List.mem_filter.mpr ⟨h, g⟩
theorem z_tbg : ∀ w ∈ z_TB, w ∈ lw_tbl ∧ goodWord w = true := fun _ h => List.mem_filter.mp h
theorem z_l1 {i : Nat} {w : Cond} (h : tables_1_1[i]? = some w) : w ∈ lw_tbl := List.mem_append_right _ (List.mem_append_left _ (List.mem_of_getElem? h))
theorem z_t1 {i : Nat} {w : Cond} (h : tables_1_1[i]? = some w) (g : goodWord w = true) : w ∈ z_TB := z_tb (z_l1 h) g
theorem z_l2 {i : Nat} {w : Cond} (h : tables_1_2[i]? = some w) : w ∈ lw_tbl := List.mem_append_right _ (List.mem_append_right _ (List.mem_append_left _ (List.mem_of_getElem? h)))
theorem z_t2 {i : Nat} {w : Cond} (h : tables_1_2[i]? = some w) (g : goodWord w = true) : w ∈ z_TB := z_tb (z_l2 h) g
theorem z_l3 {i : Nat} {w : Cond} (h : tables_1_3[i]? = some w) : w ∈ lw_tbl := List.mem_append_right _ (List.mem_append_right _ (List.mem_append_right _ (List.mem_append_left _ (List.mem_of_getElem? h))))
theorem z_t3 {i : Nat} {w : Cond} (h : tables_1_3[i]? = some w) (g : goodWord w = true) : w ∈ z_TB := z_tb (z_l3 h) g
theorem z_l4 {i : Nat} {w : Cond} (h : tables_1_4[i]? = some w) : w ∈ lw_tbl := List.mem_append_right _ (List.mem_append_right _ (List.mem_append_right _ (List.mem_append_right _ (List.mem_append_left _ (List.mem_of_getElem? h)))))
theorem z_t4 {i : Nat} {w : Cond} (h : tables_1_4[i]? = some w) (g : goodWord w = true) : w ∈ z_TB := z_tb (z_l4 h) g
theorem z_l5 {i : Nat} {w : Cond} (h : tables_1_5[i]? = some w) : w ∈ lw_tbl := List.mem_append_right _ (List.mem_append_right _ (List.mem_append_right _ (List.mem_append_right _ (List.mem_append_right _ (List.mem_of_getElem? h)))))
theorem z_t5 {i : Nat} {w : Cond} (h : tables_1_5[i]? = some w) (g : goodWord w = true) : w ∈ z_TB := z_tb (z_l5 h) g
theorem z_ts {i : Nat} {w : Cond} (h : (k2_sels lw_privs)[i]? = some w) (g : goodWord w = true) : w ∈ z_TB := z_tb (List.mem_append_left _ (List.mem_of_getElem? h)) g
theorem tw_0 : Cond.initialized RL ∈ z_TB := z_t1 (i := 0) (by decide +kernel) rfl
theorem tw_1 : Cond.initialized RX7 ∈ z_TB := z_t1 (i := 1) (by decide +kernel) rfl
theorem tw_2 : Cond.initialized RX4 ∈ z_TB := z_t1 (i := 2) (by decide +kernel) rfl
theorem tw_3 : Cond.initialized RJ7 ∈ z_TB := z_t1 (i := 3) (by decide +kernel) rfl
theorem tw_4 : Cond.initialized RX1 ∈ z_TB := z_t1 (i := 4) (by decide +kernel) rfl
theorem tw_5 : Cond.initialized RX2 ∈ z_TB := z_t1 (i := 5) (by decide +kernel) rfl
theorem tw_6 : Cond.initialized RX0 ∈ z_TB := z_t1 (i := 6) (by decide +kernel) rfl
theorem tw_7 : Cond.initialized RX3 ∈ z_TB := z_t1 (i := 7) (by decide +kernel) rfl
theorem tw_8 : Cond.initialized RX6 ∈ z_TB := z_t1 (i := 8) (by decide +kernel) rfl
theorem tw_9 : Cond.initialized RX5 ∈ z_TB := z_t1 (i := 9) (by decide +kernel) rfl
theorem tw_10 : Cond.initialized RX8 ∈ z_TB := z_t1 (i := 10) (by decide +kernel) rfl
theorem tw_11 : Cond.initialized RJ10 ∈ z_TB := z_t1 (i := 11) (by decide +kernel) rfl
theorem tw_12 : Cond.initialized RJ9 ∈ z_TB := z_t1 (i := 12) (by decide +kernel) rfl
theorem tw_13 : Cond.initialized RJ6 ∈ z_TB := z_t1 (i := 13) (by decide +kernel) rfl
theorem tw_14 : Cond.initialized RJ13 ∈ z_TB := z_t1 (i := 14) (by decide +kernel) rfl
theorem tw_15 : Cond.classLink RL 7 RX7 ∈ z_TB := z_t1 (i := 15) (by decide +kernel) rfl
theorem tw_16 : Cond.instantiable RX7 11 ∈ z_TB := z_t1 (i := 16) (by decide +kernel) rfl
theorem tw_17 : Cond.methodLink RL 9 yX7_init ∈ z_TB := z_t1 (i := 17) (by decide +kernel) rfl
theorem tw_18 : Cond.instanceMethod yX7_init ∈ z_TB := z_t1 (i := 18) (by decide +kernel) rfl
theorem tw_19 : Cond.code yX7_init cX7_init 2 none ∈ z_TB := z_t1 (i := 19) (by decide +kernel) rfl
theorem tw_20 : Cond.methodLink RX7 1 objectInit ∈ z_TB := z_t1 (i := 20) (by decide +kernel) rfl
theorem tw_21 : Cond.instanceMethod objectInit ∈ z_TB := z_t1 (i := 21) (by decide +kernel) rfl
theorem tw_22 : Cond.code objectInit object_method_1_code 1 none ∈ z_TB := z_t1 (i := 22) (by decide +kernel) rfl
theorem tw_23 : Cond.classLink RX7 7 RX4 ∈ z_TB := z_t1 (i := 23) (by decide +kernel) rfl
theorem tw_24 : Cond.instantiable RX4 3 ∈ z_TB := z_t1 (i := 24) (by decide +kernel) rfl
theorem tw_25 : Cond.methodLink RX7 9 yX4_init ∈ z_TB := z_t1 (i := 25) (by decide +kernel) rfl
theorem tw_26 : Cond.instanceMethod yX4_init ∈ z_TB := z_t1 (i := 26) (by decide +kernel) rfl
theorem tw_27 : Cond.code yX4_init cX4_init 2 none ∈ z_TB := z_t1 (i := 27) (by decide +kernel) rfl
theorem tw_28 : Cond.methodLink RX4 3 objectInit ∈ z_TB := z_t1 (i := 28) (by decide +kernel) rfl
theorem tw_29 : Cond.methodLink RX4 15 yJ7_fill_53178 ∈ z_TB := z_t1 (i := 29) (by decide +kernel) rfl
theorem tw_30 : Cond.static yJ7_fill_53178 ∈ z_TB := z_t1 (i := 30) (by decide +kernel) rfl
theorem tw_31 : Cond.code yJ7_fill_53178 cJ7_fill_53178 4 none ∈ z_TB := z_t1 (i := 31) (by decide +kernel) rfl
theorem tw_32 : Cond.classLink RX4 21 RX1 ∈ z_TB := z_t1 (i := 32) (by decide +kernel) rfl
theorem tn_33 : Cond.arrayOver (.object RX1) ∈ lw_tbl := z_l1 (i := 33) (by decide +kernel)
theorem tw_34 : Cond.instantiable RX1 3 ∈ z_TB := z_t1 (i := 34) (by decide +kernel) rfl
theorem tw_35 : Cond.methodLink RX4 27 yX1_init ∈ z_TB := z_t1 (i := 35) (by decide +kernel) rfl
theorem tw_36 : Cond.instanceMethod yX1_init ∈ z_TB := z_t1 (i := 36) (by decide +kernel) rfl
theorem tw_37 : Cond.code yX1_init cX1_init 1 none ∈ z_TB := z_t1 (i := 37) (by decide +kernel) rfl
theorem tw_38 : Cond.methodLink RX1 3 objectInit ∈ z_TB := z_t1 (i := 38) (by decide +kernel) rfl
theorem tw_39 : Cond.fieldLink RX1 9 RX1 "sets" "[I" ∈ z_TB := z_t1 (i := 39) (by decide +kernel) rfl
theorem tw_40 : Cond.fieldLink RX6 42 RX1 "sets" "[I" ∈ z_TB := z_t1 (i := 40) (by decide +kernel) rfl
theorem tw_41 : Cond.fieldLink RX5 36 RX1 "sets" "[I" ∈ z_TB := z_t1 (i := 41) (by decide +kernel) rfl
theorem tw_42 : Cond.fieldLink RX7 109 RX1 "sets" "[I" ∈ z_TB := z_t1 (i := 42) (by decide +kernel) rfl
theorem tw_43 : Cond.fieldLink RX1 15 RX1 "tallies" "[I" ∈ z_TB := z_t1 (i := 43) (by decide +kernel) rfl
theorem tw_44 : Cond.fieldLink RX5 72 RX1 "tallies" "[I" ∈ z_TB := z_t1 (i := 44) (by decide +kernel) rfl
theorem tw_45 : Cond.fieldLink RX7 148 RX1 "tallies" "[I" ∈ z_TB := z_t1 (i := 45) (by decide +kernel) rfl
theorem tw_46 : Cond.fieldLink RX1 18 RX1 "held" "I" ∈ z_TB := z_t1 (i := 46) (by decide +kernel) rfl
theorem tw_47 : Cond.fieldLink RX6 33 RX1 "held" "I" ∈ z_TB := z_t1 (i := 47) (by decide +kernel) rfl
theorem tw_48 : Cond.fieldLink RX4 42 RX1 "held" "I" ∈ z_TB := z_t1 (i := 48) (by decide +kernel) rfl
theorem tw_49 : Cond.fieldLink RX5 30 RX1 "held" "I" ∈ z_TB := z_t1 (i := 49) (by decide +kernel) rfl
theorem tw_50 : Cond.fieldLink RX7 105 RX1 "held" "I" ∈ z_TB := z_t1 (i := 50) (by decide +kernel) rfl
theorem tw_58 : Cond.arrayClass .int ∈ z_TB := z_t1 (i := 58) (by decide +kernel) rfl
theorem tw_59 : Cond.fieldLink RX4 9 RX4 "prices" "[I" ∈ z_TB := z_t1 (i := 59) (by decide +kernel) rfl
theorem tw_60 : Cond.fieldLink RX7 78 RX4 "prices" "[I" ∈ z_TB := z_t1 (i := 60) (by decide +kernel) rfl
theorem tw_61 : Cond.fieldLink RX4 23 RX4 "families" "[LEachIsHit$Family;" ∈ z_TB := z_t1 (i := 61) (by decide +kernel) rfl
theorem tw_62 : Cond.fieldLink RX7 91 RX4 "families" "[LEachIsHit$Family;" ∈ z_TB := z_t1 (i := 62) (by decide +kernel) rfl
theorem tw_63 : Cond.fieldLink RX4 28 RX4 "rules" "I" ∈ z_TB := z_t1 (i := 63) (by decide +kernel) rfl
theorem tw_64 : Cond.fieldLink RX7 255 RX4 "rules" "I" ∈ z_TB := z_t1 (i := 64) (by decide +kernel) rfl
theorem tw_72 : Cond.classLink RX7 23 RX2 ∈ z_TB := z_t1 (i := 72) (by decide +kernel) rfl
theorem tn_73 : Cond.arrayOver (.object RX2) ∈ lw_tbl := z_l1 (i := 73) (by decide +kernel)
theorem tw_74 : Cond.instantiable RX2 7 ∈ z_TB := z_t1 (i := 74) (by decide +kernel) rfl
theorem tw_75 : Cond.methodLink RX7 29 yX2_init ∈ z_TB := z_t1 (i := 75) (by decide +kernel) rfl
theorem tw_76 : Cond.instanceMethod yX2_init ∈ z_TB := z_t1 (i := 76) (by decide +kernel) rfl
theorem tw_77 : Cond.code yX2_init cX2_init 2 none ∈ z_TB := z_t1 (i := 77) (by decide +kernel) rfl
theorem tw_78 : Cond.methodLink RX2 3 objectInit ∈ z_TB := z_t1 (i := 78) (by decide +kernel) rfl
theorem tw_79 : Cond.fieldLink RX2 9 RX2 "how" "I" ∈ z_TB := z_t1 (i := 79) (by decide +kernel) rfl
theorem tw_80 : Cond.fieldLink RX7 359 RX2 "how" "I" ∈ z_TB := z_t1 (i := 80) (by decide +kernel) rfl
theorem tw_81 : Cond.fieldLink RX2 22 RX2 "a" "I" ∈ z_TB := z_t1 (i := 81) (by decide +kernel) rfl
theorem tw_82 : Cond.fieldLink RX7 362 RX2 "a" "I" ∈ z_TB := z_t1 (i := 82) (by decide +kernel) rfl
theorem tw_83 : Cond.fieldLink RX2 25 RX2 "b" "I" ∈ z_TB := z_t1 (i := 83) (by decide +kernel) rfl
theorem tw_84 : Cond.fieldLink RX7 365 RX2 "b" "I" ∈ z_TB := z_t1 (i := 84) (by decide +kernel) rfl
theorem tw_85 : Cond.fieldLink RX2 28 RX2 "c" "I" ∈ z_TB := z_t1 (i := 85) (by decide +kernel) rfl
theorem tw_86 : Cond.fieldLink RX7 373 RX2 "c" "I" ∈ z_TB := z_t1 (i := 86) (by decide +kernel) rfl
theorem tw_87 : Cond.fieldLink RX2 15 RX2 "prices" "[I" ∈ z_TB := z_t1 (i := 87) (by decide +kernel) rfl
theorem tw_88 : Cond.fieldLink RX7 386 RX2 "prices" "[I" ∈ z_TB := z_t1 (i := 88) (by decide +kernel) rfl
theorem tw_89 : Cond.fieldLink RX2 19 RX2 "lastSet" "I" ∈ z_TB := z_t1 (i := 89) (by decide +kernel) rfl
theorem tw_90 : Cond.fieldLink RX7 346 RX2 "lastSet" "I" ∈ z_TB := z_t1 (i := 90) (by decide +kernel) rfl
theorem tw_91 : Cond.fieldLink RX7 356 RX2 "lastAnswer" "I" ∈ z_TB := z_t1 (i := 91) (by decide +kernel) rfl
theorem tw_107 : Cond.classLink RX7 32 RX0 ∈ z_TB := z_t1 (i := 107) (by decide +kernel) rfl
theorem tw_108 : Cond.instantiable RX0 4 ∈ z_TB := z_t1 (i := 108) (by decide +kernel) rfl
theorem tw_109 : Cond.methodLink RX7 34 yX0_init ∈ z_TB := z_t1 (i := 109) (by decide +kernel) rfl
theorem tw_110 : Cond.instanceMethod yX0_init ∈ z_TB := z_t1 (i := 110) (by decide +kernel) rfl
theorem tw_111 : Cond.code yX0_init cX0_init 1 none ∈ z_TB := z_t1 (i := 111) (by decide +kernel) rfl
theorem tw_112 : Cond.methodLink RX0 3 objectInit ∈ z_TB := z_t1 (i := 112) (by decide +kernel) rfl
theorem tw_113 : Cond.fieldLink RX0 9 RX0 "kinds" "[I" ∈ z_TB := z_t1 (i := 113) (by decide +kernel) rfl
theorem tw_114 : Cond.fieldLink RX7 135 RX0 "kinds" "[I" ∈ z_TB := z_t1 (i := 114) (by decide +kernel) rfl
theorem tw_115 : Cond.fieldLink RX0 15 RX0 "wheres" "[I" ∈ z_TB := z_t1 (i := 115) (by decide +kernel) rfl
theorem tw_116 : Cond.fieldLink RX7 129 RX0 "wheres" "[I" ∈ z_TB := z_t1 (i := 116) (by decide +kernel) rfl
theorem tw_117 : Cond.fieldLink RX0 18 RX0 "whats" "[I" ∈ z_TB := z_t1 (i := 117) (by decide +kernel) rfl
theorem tw_118 : Cond.fieldLink RX7 132 RX0 "whats" "[I" ∈ z_TB := z_t1 (i := 118) (by decide +kernel) rfl
theorem tw_119 : Cond.fieldLink RX0 21 RX0 "known" "I" ∈ z_TB := z_t1 (i := 119) (by decide +kernel) rfl
theorem tw_120 : Cond.fieldLink RX7 122 RX0 "known" "I" ∈ z_TB := z_t1 (i := 120) (by decide +kernel) rfl
theorem tw_130 : Cond.classLink RX7 39 RX3 ∈ z_TB := z_t1 (i := 130) (by decide +kernel) rfl
theorem tn_131 : Cond.arrayOver (.object RX3) ∈ lw_tbl := z_l1 (i := 131) (by decide +kernel)
theorem tw_132 : Cond.instantiable RX3 3 ∈ z_TB := z_t1 (i := 132) (by decide +kernel) rfl
theorem tw_133 : Cond.methodLink RX7 45 yX3_init ∈ z_TB := z_t1 (i := 133) (by decide +kernel) rfl
theorem tw_134 : Cond.instanceMethod yX3_init ∈ z_TB := z_t1 (i := 134) (by decide +kernel) rfl
theorem tw_135 : Cond.code yX3_init cX3_init 1 none ∈ z_TB := z_t1 (i := 135) (by decide +kernel) rfl
theorem tw_136 : Cond.methodLink RX3 3 objectInit ∈ z_TB := z_t1 (i := 136) (by decide +kernel) rfl
theorem tw_137 : Cond.fieldLink RX3 9 RX3 "row" "[J" ∈ z_TB := z_t1 (i := 137) (by decide +kernel) rfl
theorem tw_138 : Cond.fieldLink RX7 291 RX3 "row" "[J" ∈ z_TB := z_t1 (i := 138) (by decide +kernel) rfl
theorem tw_139 : Cond.fieldLink RX3 15 RX3 "sort" "I" ∈ z_TB := z_t1 (i := 139) (by decide +kernel) rfl
theorem tw_140 : Cond.fieldLink RX7 275 RX3 "sort" "I" ∈ z_TB := z_t1 (i := 140) (by decide +kernel) rfl
theorem tw_141 : Cond.fieldLink RX3 19 RX3 "places" "I" ∈ z_TB := z_t1 (i := 141) (by decide +kernel) rfl
theorem tw_142 : Cond.fieldLink RX7 286 RX3 "places" "I" ∈ z_TB := z_t1 (i := 142) (by decide +kernel) rfl
theorem tw_150 : Cond.arrayClass .long ∈ z_TB := z_t1 (i := 150) (by decide +kernel) rfl
theorem tw_151 : Cond.classLink RX7 46 RX6 ∈ z_TB := z_t1 (i := 151) (by decide +kernel) rfl
theorem tw_152 : Cond.instantiable RX6 10 ∈ z_TB := z_t1 (i := 152) (by decide +kernel) rfl
theorem tw_153 : Cond.methodLink RX7 48 yX6_init ∈ z_TB := z_t1 (i := 153) (by decide +kernel) rfl
theorem tw_154 : Cond.instanceMethod yX6_init ∈ z_TB := z_t1 (i := 154) (by decide +kernel) rfl
theorem tw_155 : Cond.code yX6_init cX6_init 1 none ∈ z_TB := z_t1 (i := 155) (by decide +kernel) rfl
theorem tw_156 : Cond.methodLink RX6 3 objectInit ∈ z_TB := z_t1 (i := 156) (by decide +kernel) rfl
theorem tw_157 : Cond.classLink RX6 9 "[[I" ∈ z_TB := z_t1 (i := 157) (by decide +kernel) rfl
theorem tn_158 : Cond.arrayOver (.array .int) ∈ lw_tbl := z_l1 (i := 158) (by decide +kernel)
theorem tw_159 : Cond.fieldLink RX6 11 RX6 "rows" "[[I" ∈ z_TB := z_t1 (i := 159) (by decide +kernel) rfl
theorem tw_160 : Cond.fieldLink RX6 16 RX6 "wanted" "I" ∈ z_TB := z_t1 (i := 160) (by decide +kernel) rfl
theorem tw_161 : Cond.fieldLink RX6 20 RX6 "nodes" "I" ∈ z_TB := z_t1 (i := 161) (by decide +kernel) rfl
theorem tw_162 : Cond.fieldLink RX7 196 RX6 "nodes" "I" ∈ z_TB := z_t1 (i := 162) (by decide +kernel) rfl
theorem tw_163 : Cond.fieldLink RX6 23 RX6 "deepest" "I" ∈ z_TB := z_t1 (i := 163) (by decide +kernel) rfl
theorem tw_164 : Cond.fieldLink RX7 199 RX6 "deepest" "I" ∈ z_TB := z_t1 (i := 164) (by decide +kernel) rfl
theorem tw_165 : Cond.fieldLink RX6 26 RX6 "bare" "I" ∈ z_TB := z_t1 (i := 165) (by decide +kernel) rfl
theorem tw_166 : Cond.fieldLink RX7 202 RX6 "bare" "I" ∈ z_TB := z_t1 (i := 166) (by decide +kernel) rfl
theorem tw_167 : Cond.fieldLink RX6 29 RX6 "isFound" "Z" ∈ z_TB := z_t1 (i := 167) (by decide +kernel) rfl
theorem tw_168 : Cond.fieldLink RX7 205 RX6 "isFound" "Z" ∈ z_TB := z_t1 (i := 168) (by decide +kernel) rfl
theorem tw_169 : Cond.fieldLink RX6 54 RX6 "point" "I" ∈ z_TB := z_t1 (i := 169) (by decide +kernel) rfl
theorem tw_170 : Cond.fieldLink RX7 208 RX6 "point" "I" ∈ z_TB := z_t1 (i := 170) (by decide +kernel) rfl
theorem tw_171 : Cond.fieldLink RX6 57 RX6 "sets" "I" ∈ z_TB := z_t1 (i := 171) (by decide +kernel) rfl
theorem tw_172 : Cond.fieldLink RX7 211 RX6 "sets" "I" ∈ z_TB := z_t1 (i := 172) (by decide +kernel) rfl
theorem tw_173 : Cond.fieldLink RX6 59 RX6 "depth" "I" ∈ z_TB := z_t1 (i := 173) (by decide +kernel) rfl
theorem tw_174 : Cond.fieldLink RX7 213 RX6 "depth" "I" ∈ z_TB := z_t1 (i := 174) (by decide +kernel) rfl
theorem tw_175 : Cond.fieldLink RX6 62 RX6 "had" "I" ∈ z_TB := z_t1 (i := 175) (by decide +kernel) rfl
theorem tw_176 : Cond.fieldLink RX7 216 RX6 "had" "I" ∈ z_TB := z_t1 (i := 176) (by decide +kernel) rfl
theorem tw_198 : Cond.classLink RX7 53 RX1 ∈ z_TB := z_t1 (i := 198) (by decide +kernel) rfl
theorem tw_199 : Cond.methodLink RX7 55 yX1_init ∈ z_TB := z_t1 (i := 199) (by decide +kernel) rfl
theorem tw_200 : Cond.classLink RX7 60 RX5 ∈ z_TB := z_t1 (i := 200) (by decide +kernel) rfl
theorem tw_201 : Cond.instantiable RX5 2 ∈ z_TB := z_t1 (i := 201) (by decide +kernel) rfl
theorem tw_202 : Cond.methodLink RX7 62 yX5_init ∈ z_TB := z_t1 (i := 202) (by decide +kernel) rfl
theorem tw_203 : Cond.instanceMethod yX5_init ∈ z_TB := z_t1 (i := 203) (by decide +kernel) rfl
theorem tw_204 : Cond.code yX5_init cX5_init 1 none ∈ z_TB := z_t1 (i := 204) (by decide +kernel) rfl
theorem tw_205 : Cond.methodLink RX5 3 objectInit ∈ z_TB := z_t1 (i := 205) (by decide +kernel) rfl
theorem tw_206 : Cond.fieldLink RX5 11 RX5 "words" "[J" ∈ z_TB := z_t1 (i := 206) (by decide +kernel) rfl
theorem tw_207 : Cond.fieldLink RX5 15 RX5 "supports" "[I" ∈ z_TB := z_t1 (i := 207) (by decide +kernel) rfl
theorem tw_213 : Cond.fieldLink RX7 10 RX7 "now" "LEachIsHit$Stock;" ∈ z_TB := z_t1 (i := 213) (by decide +kernel) rfl
theorem tw_214 : Cond.fieldLink RX7 16 RX7 "kept" "LEachIsHit$Stock;" ∈ z_TB := z_t1 (i := 214) (by decide +kernel) rfl
theorem tw_215 : Cond.fieldLink RX7 19 RX7 "isKept" "Z" ∈ z_TB := z_t1 (i := 215) (by decide +kernel) rfl
theorem tw_216 : Cond.fieldLink RX7 25 RX7 "rules" "[LEachIsHit$Rule;" ∈ z_TB := z_t1 (i := 216) (by decide +kernel) rfl
theorem tw_217 : Cond.fieldLink RX7 35 RX7 "acts" "LEachIsHit$Acts;" ∈ z_TB := z_t1 (i := 217) (by decide +kernel) rfl
theorem tw_218 : Cond.fieldLink RX7 41 RX7 "sheets" "[LEachIsHit$Sheet;" ∈ z_TB := z_t1 (i := 218) (by decide +kernel) rfl
theorem tw_219 : Cond.fieldLink RX7 49 RX7 "walk" "LEachIsHit$Walk;" ∈ z_TB := z_t1 (i := 219) (by decide +kernel) rfl
theorem tw_220 : Cond.fieldLink RX7 56 RX7 "spare" "LEachIsHit$Family;" ∈ z_TB := z_t1 (i := 220) (by decide +kernel) rfl
theorem tw_221 : Cond.fieldLink RX7 63 RX7 "hits" "LEachIsHit$Table;" ∈ z_TB := z_t1 (i := 221) (by decide +kernel) rfl
theorem tw_222 : Cond.fieldLink RX7 67 RX7 "least" "LEachIsHit$Table;" ∈ z_TB := z_t1 (i := 222) (by decide +kernel) rfl
theorem tw_223 : Cond.fieldLink RX7 70 RX7 "worths" "[I" ∈ z_TB := z_t1 (i := 223) (by decide +kernel) rfl
theorem tw_247 : Cond.methodLink RL 13 yX7_price ∈ z_TB := z_t2 (i := 7) (by decide +kernel) rfl
theorem tw_248 : Cond.instanceMethod yX7_price ∈ z_TB := z_t2 (i := 8) (by decide +kernel) rfl
theorem tw_249 : Cond.selects RX7 yX7_price yX7_price ∈ z_TB := z_t2 (i := 9) (by decide +kernel) rfl
theorem tw_250 : Cond.code yX7_price cX7_price 4 (some .int) ∈ z_TB := z_t2 (i := 10) (by decide +kernel) rfl
theorem tw_251 : Cond.methodLink RX7 74 yX7_isNoPoint ∈ z_TB := z_t2 (i := 11) (by decide +kernel) rfl
theorem tw_252 : Cond.static yX7_isNoPoint ∈ z_TB := z_t2 (i := 12) (by decide +kernel) rfl
theorem tw_253 : Cond.code yX7_isNoPoint cX7_isNoPoint 1 (some .boolean) ∈ z_TB := z_t2 (i := 13) (by decide +kernel) rfl
theorem tw_254 : Cond.methodLink RX7 81 yX0_remember ∈ z_TB := z_t2 (i := 14) (by decide +kernel) rfl
theorem tw_255 : Cond.instanceMethod yX0_remember ∈ z_TB := z_t2 (i := 15) (by decide +kernel) rfl
theorem tw_256 : Cond.selects RX0 yX0_remember yX0_remember ∈ z_TB := z_t2 (i := 16) (by decide +kernel) rfl
theorem tw_257 : Cond.code yX0_remember cX0_remember 4 none ∈ z_TB := z_t2 (i := 17) (by decide +kernel) rfl
theorem tw_258 : Cond.methodLink RX0 25 yX0_forgetOldest ∈ z_TB := z_t2 (i := 18) (by decide +kernel) rfl
theorem tw_259 : Cond.instanceMethod yX0_forgetOldest ∈ z_TB := z_t2 (i := 19) (by decide +kernel) rfl
theorem tw_260 : Cond.selects RX0 yX0_forgetOldest yX0_forgetOldest ∈ z_TB := z_t2 (i := 20) (by decide +kernel) rfl
theorem tw_261 : Cond.code yX0_forgetOldest cX0_forgetOldest 1 none ∈ z_TB := z_t2 (i := 21) (by decide +kernel) rfl
theorem tw_262 : Cond.methodLink RX0 28 arraycopyName ∈ z_TB := z_t2 (i := 22) (by decide +kernel) rfl
theorem tw_263 : Cond.static arraycopyName ∈ z_TB := z_t2 (i := 23) (by decide +kernel) rfl
theorem tw_264 : Cond.native arraycopyName ∈ z_TB := z_t2 (i := 24) (by decide +kernel) rfl
theorem tw_265 : Cond.methodLink RL 18 yX7_priceOf ∈ z_TB := z_t2 (i := 25) (by decide +kernel) rfl
theorem tw_266 : Cond.instanceMethod yX7_priceOf ∈ z_TB := z_t2 (i := 26) (by decide +kernel) rfl
theorem tw_267 : Cond.selects RX7 yX7_priceOf yX7_priceOf ∈ z_TB := z_t2 (i := 27) (by decide +kernel) rfl
theorem tw_268 : Cond.code yX7_priceOf cX7_priceOf 2 (some .int) ∈ z_TB := z_t2 (i := 28) (by decide +kernel) rfl
theorem tw_269 : Cond.methodLink RL 23 yX7_tell ∈ z_TB := z_t2 (i := 29) (by decide +kernel) rfl
theorem tw_270 : Cond.instanceMethod yX7_tell ∈ z_TB := z_t2 (i := 30) (by decide +kernel) rfl
theorem tw_271 : Cond.selects RX7 yX7_tell yX7_tell ∈ z_TB := z_t2 (i := 31) (by decide +kernel) rfl
theorem tw_272 : Cond.code yX7_tell cX7_tell 5 (some .int) ∈ z_TB := z_t2 (i := 32) (by decide +kernel) rfl
theorem tw_273 : Cond.methodLink RX7 85 yX7_isNoFamily ∈ z_TB := z_t2 (i := 33) (by decide +kernel) rfl
theorem tw_274 : Cond.static yX7_isNoFamily ∈ z_TB := z_t2 (i := 34) (by decide +kernel) rfl
theorem tw_275 : Cond.code yX7_isNoFamily cX7_isNoFamily 1 (some .boolean) ∈ z_TB := z_t2 (i := 35) (by decide +kernel) rfl
theorem tw_276 : Cond.methodLink RX7 88 yX7_isNoSet ∈ z_TB := z_t2 (i := 36) (by decide +kernel) rfl
theorem tw_277 : Cond.static yX7_isNoSet ∈ z_TB := z_t2 (i := 37) (by decide +kernel) rfl
theorem tw_278 : Cond.code yX7_isNoSet cX7_isNoSet 1 (some .boolean) ∈ z_TB := z_t2 (i := 38) (by decide +kernel) rfl
theorem tw_279 : Cond.methodLink RX7 95 yX1_tallyOf ∈ z_TB := z_t2 (i := 39) (by decide +kernel) rfl
theorem tw_280 : Cond.instanceMethod yX1_tallyOf ∈ z_TB := z_t2 (i := 40) (by decide +kernel) rfl
theorem tw_281 : Cond.selects RX1 yX1_tallyOf yX1_tallyOf ∈ z_TB := z_t2 (i := 41) (by decide +kernel) rfl
theorem tw_282 : Cond.code yX1_tallyOf cX1_tallyOf 3 (some .int) ∈ z_TB := z_t2 (i := 42) (by decide +kernel) rfl
theorem tw_283 : Cond.methodLink RX1 22 yX1_placeOf ∈ z_TB := z_t2 (i := 43) (by decide +kernel) rfl
theorem tw_284 : Cond.instanceMethod yX1_placeOf ∈ z_TB := z_t2 (i := 44) (by decide +kernel) rfl
theorem tw_285 : Cond.selects RX1 yX1_placeOf yX1_placeOf ∈ z_TB := z_t2 (i := 45) (by decide +kernel) rfl
theorem tw_286 : Cond.code yX1_placeOf cX1_placeOf 3 (some .int) ∈ z_TB := z_t2 (i := 46) (by decide +kernel) rfl
theorem tw_287 : Cond.methodLink RX7 99 yX1_add ∈ z_TB := z_t2 (i := 47) (by decide +kernel) rfl
theorem tw_288 : Cond.instanceMethod yX1_add ∈ z_TB := z_t2 (i := 48) (by decide +kernel) rfl
theorem tw_289 : Cond.selects RX1 yX1_add yX1_add ∈ z_TB := z_t2 (i := 49) (by decide +kernel) rfl
theorem tw_290 : Cond.code yX1_add cX1_add 3 (some .int) ∈ z_TB := z_t2 (i := 50) (by decide +kernel) rfl
theorem tw_291 : Cond.methodLink RX1 26 yX1_append ∈ z_TB := z_t2 (i := 51) (by decide +kernel) rfl
theorem tw_292 : Cond.instanceMethod yX1_append ∈ z_TB := z_t2 (i := 52) (by decide +kernel) rfl
theorem tw_293 : Cond.selects RX1 yX1_append yX1_append ∈ z_TB := z_t2 (i := 53) (by decide +kernel) rfl
theorem tw_294 : Cond.code yX1_append cX1_append 3 (some .int) ∈ z_TB := z_t2 (i := 54) (by decide +kernel) rfl
theorem tw_295 : Cond.methodLink RX1 30 yJ9_min_7cf53 ∈ z_TB := z_t2 (i := 55) (by decide +kernel) rfl
theorem tw_296 : Cond.static yJ9_min_7cf53 ∈ z_TB := z_t2 (i := 56) (by decide +kernel) rfl
theorem tw_297 : Cond.code yJ9_min_7cf53 cJ9_min_7cf53 2 (some .int) ∈ z_TB := z_t2 (i := 57) (by decide +kernel) rfl
theorem tw_298 : Cond.methodLink RL 27 yX7_take ∈ z_TB := z_t2 (i := 58) (by decide +kernel) rfl
theorem tw_299 : Cond.instanceMethod yX7_take ∈ z_TB := z_t2 (i := 59) (by decide +kernel) rfl
theorem tw_300 : Cond.selects RX7 yX7_take yX7_take ∈ z_TB := z_t2 (i := 60) (by decide +kernel) rfl
theorem tw_301 : Cond.code yX7_take cX7_take 4 (some .int) ∈ z_TB := z_t2 (i := 61) (by decide +kernel) rfl
theorem tw_302 : Cond.methodLink RX7 102 yX1_drop ∈ z_TB := z_t2 (i := 62) (by decide +kernel) rfl
theorem tw_303 : Cond.instanceMethod yX1_drop ∈ z_TB := z_t2 (i := 63) (by decide +kernel) rfl
theorem tw_304 : Cond.selects RX1 yX1_drop yX1_drop ∈ z_TB := z_t2 (i := 64) (by decide +kernel) rfl
theorem tw_305 : Cond.code yX1_drop cX1_drop 4 (some .int) ∈ z_TB := z_t2 (i := 65) (by decide +kernel) rfl
theorem tw_306 : Cond.methodLink RX1 35 yX1_removeAt ∈ z_TB := z_t2 (i := 66) (by decide +kernel) rfl
theorem tw_307 : Cond.instanceMethod yX1_removeAt ∈ z_TB := z_t2 (i := 67) (by decide +kernel) rfl
theorem tw_308 : Cond.selects RX1 yX1_removeAt yX1_removeAt ∈ z_TB := z_t2 (i := 68) (by decide +kernel) rfl
theorem tw_309 : Cond.code yX1_removeAt cX1_removeAt 3 none ∈ z_TB := z_t2 (i := 69) (by decide +kernel) rfl
theorem tw_310 : Cond.methodLink RL 31 yX7_tally ∈ z_TB := z_t2 (i := 70) (by decide +kernel) rfl
theorem tw_311 : Cond.instanceMethod yX7_tally ∈ z_TB := z_t2 (i := 71) (by decide +kernel) rfl
theorem tw_312 : Cond.selects RX7 yX7_tally yX7_tally ∈ z_TB := z_t2 (i := 72) (by decide +kernel) rfl
theorem tw_313 : Cond.code yX7_tally cX7_tally 3 (some .int) ∈ z_TB := z_t2 (i := 73) (by decide +kernel) rfl
theorem tw_314 : Cond.methodLink RL 35 yX7_at ∈ z_TB := z_t2 (i := 74) (by decide +kernel) rfl
theorem tw_315 : Cond.instanceMethod yX7_at ∈ z_TB := z_t2 (i := 75) (by decide +kernel) rfl
theorem tw_316 : Cond.selects RX7 yX7_at yX7_at ∈ z_TB := z_t2 (i := 76) (by decide +kernel) rfl
theorem tw_317 : Cond.code yX7_at cX7_at 4 (some .int) ∈ z_TB := z_t2 (i := 77) (by decide +kernel) rfl
theorem tw_318 : Cond.methodLink RL 39 yX7_size ∈ z_TB := z_t2 (i := 78) (by decide +kernel) rfl
theorem tw_319 : Cond.instanceMethod yX7_size ∈ z_TB := z_t2 (i := 79) (by decide +kernel) rfl
theorem tw_320 : Cond.selects RX7 yX7_size yX7_size ∈ z_TB := z_t2 (i := 80) (by decide +kernel) rfl
theorem tw_321 : Cond.code yX7_size cX7_size 2 (some .int) ∈ z_TB := z_t2 (i := 81) (by decide +kernel) rfl
theorem tw_322 : Cond.methodLink RL 43 yX7_wipe ∈ z_TB := z_t2 (i := 82) (by decide +kernel) rfl
theorem tw_323 : Cond.instanceMethod yX7_wipe ∈ z_TB := z_t2 (i := 83) (by decide +kernel) rfl
theorem tw_324 : Cond.selects RX7 yX7_wipe yX7_wipe ∈ z_TB := z_t2 (i := 84) (by decide +kernel) rfl
theorem tw_325 : Cond.code yX7_wipe cX7_wipe 3 (some .int) ∈ z_TB := z_t2 (i := 85) (by decide +kernel) rfl
theorem tw_326 : Cond.methodLink RX7 112 yX1_clear ∈ z_TB := z_t2 (i := 86) (by decide +kernel) rfl
theorem tw_327 : Cond.instanceMethod yX1_clear ∈ z_TB := z_t2 (i := 87) (by decide +kernel) rfl
theorem tw_328 : Cond.selects RX1 yX1_clear yX1_clear ∈ z_TB := z_t2 (i := 88) (by decide +kernel) rfl
theorem tw_329 : Cond.code yX1_clear cX1_clear 1 none ∈ z_TB := z_t2 (i := 89) (by decide +kernel) rfl
theorem tw_330 : Cond.methodLink RX7 115 yX0_forgetAll ∈ z_TB := z_t2 (i := 90) (by decide +kernel) rfl
theorem tw_331 : Cond.instanceMethod yX0_forgetAll ∈ z_TB := z_t2 (i := 91) (by decide +kernel) rfl
theorem tw_332 : Cond.selects RX0 yX0_forgetAll yX0_forgetAll ∈ z_TB := z_t2 (i := 92) (by decide +kernel) rfl
theorem tw_333 : Cond.code yX0_forgetAll cX0_forgetAll 1 none ∈ z_TB := z_t2 (i := 93) (by decide +kernel) rfl
theorem tw_334 : Cond.methodLink RL 47 yX7_copy ∈ z_TB := z_t2 (i := 94) (by decide +kernel) rfl
theorem tw_335 : Cond.instanceMethod yX7_copy ∈ z_TB := z_t2 (i := 95) (by decide +kernel) rfl
theorem tw_336 : Cond.selects RX7 yX7_copy yX7_copy ∈ z_TB := z_t2 (i := 96) (by decide +kernel) rfl
theorem tw_337 : Cond.code yX7_copy cX7_copy 3 (some .int) ∈ z_TB := z_t2 (i := 97) (by decide +kernel) rfl
theorem tw_338 : Cond.methodLink RX7 118 yX1_become ∈ z_TB := z_t2 (i := 98) (by decide +kernel) rfl
theorem tw_339 : Cond.instanceMethod yX1_become ∈ z_TB := z_t2 (i := 99) (by decide +kernel) rfl
theorem tw_340 : Cond.selects RX1 yX1_become yX1_become ∈ z_TB := z_t2 (i := 100) (by decide +kernel) rfl
theorem tw_341 : Cond.code yX1_become cX1_become 2 none ∈ z_TB := z_t2 (i := 101) (by decide +kernel) rfl
theorem tw_342 : Cond.methodLink RX1 39 arraycopyName ∈ z_TB := z_t2 (i := 102) (by decide +kernel) rfl
theorem tw_343 : Cond.methodLink RL 51 yX7_undo ∈ z_TB := z_t2 (i := 103) (by decide +kernel) rfl
theorem tw_344 : Cond.instanceMethod yX7_undo ∈ z_TB := z_t2 (i := 104) (by decide +kernel) rfl
theorem tw_345 : Cond.selects RX7 yX7_undo yX7_undo ∈ z_TB := z_t2 (i := 105) (by decide +kernel) rfl
theorem tw_346 : Cond.code yX7_undo cX7_undo 4 (some .int) ∈ z_TB := z_t2 (i := 106) (by decide +kernel) rfl
theorem tw_347 : Cond.methodLink RX7 125 yX0_forgetLast ∈ z_TB := z_t2 (i := 107) (by decide +kernel) rfl
theorem tw_348 : Cond.instanceMethod yX0_forgetLast ∈ z_TB := z_t2 (i := 108) (by decide +kernel) rfl
theorem tw_349 : Cond.selects RX0 yX0_forgetLast yX0_forgetLast ∈ z_TB := z_t2 (i := 109) (by decide +kernel) rfl
theorem tw_350 : Cond.code yX0_forgetLast cX0_forgetLast 1 (some .int) ∈ z_TB := z_t2 (i := 110) (by decide +kernel) rfl
theorem tw_351 : Cond.methodLink RX0 34 yJ9_max_7cf53 ∈ z_TB := z_t2 (i := 111) (by decide +kernel) rfl
theorem tw_352 : Cond.static yJ9_max_7cf53 ∈ z_TB := z_t2 (i := 112) (by decide +kernel) rfl
theorem tw_353 : Cond.code yJ9_max_7cf53 cJ9_max_7cf53 2 (some .int) ∈ z_TB := z_t2 (i := 113) (by decide +kernel) rfl
theorem tw_354 : Cond.methodLink RL 56 yX7_often ∈ z_TB := z_t2 (i := 114) (by decide +kernel) rfl
theorem tw_355 : Cond.instanceMethod yX7_often ∈ z_TB := z_t2 (i := 115) (by decide +kernel) rfl
theorem tw_356 : Cond.selects RX7 yX7_often yX7_often ∈ z_TB := z_t2 (i := 116) (by decide +kernel) rfl
theorem tw_357 : Cond.code yX7_often cX7_often 3 (some .int) ∈ z_TB := z_t2 (i := 117) (by decide +kernel) rfl
theorem tw_358 : Cond.methodLink RX7 138 yX1_countWith ∈ z_TB := z_t2 (i := 118) (by decide +kernel) rfl
theorem tw_359 : Cond.instanceMethod yX1_countWith ∈ z_TB := z_t2 (i := 119) (by decide +kernel) rfl
theorem tw_360 : Cond.selects RX1 yX1_countWith yX1_countWith ∈ z_TB := z_t2 (i := 120) (by decide +kernel) rfl
theorem tw_361 : Cond.code yX1_countWith cX1_countWith 2 (some .int) ∈ z_TB := z_t2 (i := 121) (by decide +kernel) rfl
theorem tw_362 : Cond.methodLink RX1 45 yX1_countMet ∈ z_TB := z_t2 (i := 122) (by decide +kernel) rfl
theorem tw_363 : Cond.instanceMethod yX1_countMet ∈ z_TB := z_t2 (i := 123) (by decide +kernel) rfl
theorem tw_364 : Cond.selects RX1 yX1_countMet yX1_countMet ∈ z_TB := z_t2 (i := 124) (by decide +kernel) rfl
theorem tw_365 : Cond.code yX1_countMet cX1_countMet 4 (some .int) ∈ z_TB := z_t2 (i := 125) (by decide +kernel) rfl
theorem tw_366 : Cond.methodLink RL 60 yX7_top ∈ z_TB := z_t2 (i := 126) (by decide +kernel) rfl
theorem tw_367 : Cond.instanceMethod yX7_top ∈ z_TB := z_t2 (i := 127) (by decide +kernel) rfl
theorem tw_368 : Cond.selects RX7 yX7_top yX7_top ∈ z_TB := z_t2 (i := 128) (by decide +kernel) rfl
theorem tw_369 : Cond.code yX7_top cX7_top 2 (some .int) ∈ z_TB := z_t2 (i := 129) (by decide +kernel) rfl
theorem tw_370 : Cond.methodLink RX7 141 yX7_topPoint ∈ z_TB := z_t2 (i := 130) (by decide +kernel) rfl
theorem tw_371 : Cond.static yX7_topPoint ∈ z_TB := z_t2 (i := 131) (by decide +kernel) rfl
theorem tw_372 : Cond.code yX7_topPoint cX7_topPoint 7 (some .int) ∈ z_TB := z_t2 (i := 132) (by decide +kernel) rfl
theorem tw_373 : Cond.methodLink RL 64 yX7_isSimple ∈ z_TB := z_t2 (i := 133) (by decide +kernel) rfl
theorem tw_374 : Cond.instanceMethod yX7_isSimple ∈ z_TB := z_t2 (i := 134) (by decide +kernel) rfl
theorem tw_375 : Cond.selects RX7 yX7_isSimple yX7_isSimple ∈ z_TB := z_t2 (i := 135) (by decide +kernel) rfl
theorem tw_376 : Cond.code yX7_isSimple cX7_isSimple 4 (some .int) ∈ z_TB := z_t2 (i := 136) (by decide +kernel) rfl
theorem tw_377 : Cond.methodLink RX7 145 yX1_hasPart ∈ z_TB := z_t2 (i := 137) (by decide +kernel) rfl
theorem tw_378 : Cond.instanceMethod yX1_hasPart ∈ z_TB := z_t2 (i := 138) (by decide +kernel) rfl
theorem tw_379 : Cond.selects RX1 yX1_hasPart yX1_hasPart ∈ z_TB := z_t2 (i := 139) (by decide +kernel) rfl
theorem tw_380 : Cond.code yX1_hasPart cX1_hasPart 3 (some .boolean) ∈ z_TB := z_t2 (i := 140) (by decide +kernel) rfl
theorem tn_381 : Cond.methodLinkNest RX1 48 yX7_isPart RX7 ∈ lw_tbl := z_l2 (i := 141) (by decide +kernel)
theorem tw_382 : Cond.static yX7_isPart ∈ z_TB := z_t2 (i := 142) (by decide +kernel) rfl
theorem tw_383 : Cond.code yX7_isPart cX7_isPart 2 (some .boolean) ∈ z_TB := z_t2 (i := 143) (by decide +kernel) rfl
theorem tw_384 : Cond.methodLink RL 68 yX7_lean ∈ z_TB := z_t2 (i := 144) (by decide +kernel) rfl
theorem tw_385 : Cond.instanceMethod yX7_lean ∈ z_TB := z_t2 (i := 145) (by decide +kernel) rfl
theorem tw_386 : Cond.selects RX7 yX7_lean yX7_lean ∈ z_TB := z_t2 (i := 146) (by decide +kernel) rfl
theorem tw_387 : Cond.code yX7_lean cX7_lean 5 (some .int) ∈ z_TB := z_t2 (i := 147) (by decide +kernel) rfl
theorem tw_388 : Cond.methodLink RX7 151 yX1_append ∈ z_TB := z_t2 (i := 148) (by decide +kernel) rfl
theorem tw_389 : Cond.methodLink RL 72 yX7_test ∈ z_TB := z_t2 (i := 149) (by decide +kernel) rfl
theorem tw_390 : Cond.instanceMethod yX7_test ∈ z_TB := z_t2 (i := 150) (by decide +kernel) rfl
theorem tw_391 : Cond.selects RX7 yX7_test yX7_test ∈ z_TB := z_t2 (i := 151) (by decide +kernel) rfl
theorem tw_392 : Cond.code yX7_test cX7_test 4 (some .int) ∈ z_TB := z_t2 (i := 152) (by decide +kernel) rfl
theorem tw_393 : Cond.methodLink RX7 155 yX7_isNoTest ∈ z_TB := z_t2 (i := 153) (by decide +kernel) rfl
theorem tw_394 : Cond.static yX7_isNoTest ∈ z_TB := z_t2 (i := 154) (by decide +kernel) rfl
theorem tw_395 : Cond.code yX7_isNoTest cX7_isNoTest 1 (some .boolean) ∈ z_TB := z_t2 (i := 155) (by decide +kernel) rfl
theorem tw_396 : Cond.methodLink RX7 158 yX7_tableOf ∈ z_TB := z_t2 (i := 156) (by decide +kernel) rfl
theorem tw_398 : Cond.instanceMethod yX7_tableOf ∈ z_TB := z_t2 (i := 158) (by decide +kernel) rfl
theorem tw_399 : Cond.code yX7_tableOf cX7_tableOf 3 (some (.object RX5)) ∈ z_TB := z_t2 (i := 159) (by decide +kernel) rfl
theorem tw_400 : Cond.methodLink RX7 312 yX5_becomeHitting ∈ z_TB := z_t2 (i := 160) (by decide +kernel) rfl
theorem tw_401 : Cond.instanceMethod yX5_becomeHitting ∈ z_TB := z_t2 (i := 161) (by decide +kernel) rfl
theorem tw_402 : Cond.selects RX5 yX5_becomeHitting yX5_becomeHitting ∈ z_TB := z_t2 (i := 162) (by decide +kernel) rfl
theorem tw_403 : Cond.code yX5_becomeHitting cX5_becomeHitting 3 none ∈ z_TB := z_t2 (i := 163) (by decide +kernel) rfl
theorem tw_404 : Cond.methodLink RX5 24 yJ7_fill_d0a16 ∈ z_TB := z_t2 (i := 164) (by decide +kernel) rfl
theorem tw_405 : Cond.static yJ7_fill_d0a16 ∈ z_TB := z_t2 (i := 165) (by decide +kernel) rfl
theorem tw_406 : Cond.code yJ7_fill_d0a16 cJ7_fill_d0a16 5 none ∈ z_TB := z_t2 (i := 166) (by decide +kernel) rfl
theorem tw_407 : Cond.methodLink RX5 39 yX5_put ∈ z_TB := z_t2 (i := 167) (by decide +kernel) rfl
theorem tw_408 : Cond.instanceMethod yX5_put ∈ z_TB := z_t2 (i := 168) (by decide +kernel) rfl
theorem tw_409 : Cond.selects RX5 yX5_put yX5_put ∈ z_TB := z_t2 (i := 169) (by decide +kernel) rfl
theorem tw_410 : Cond.code yX5_put cX5_put 2 none ∈ z_TB := z_t2 (i := 170) (by decide +kernel) rfl
theorem tw_411 : Cond.methodLink RX5 43 yX5_addParts ∈ z_TB := z_t2 (i := 171) (by decide +kernel) rfl
theorem tw_412 : Cond.instanceMethod yX5_addParts ∈ z_TB := z_t2 (i := 172) (by decide +kernel) rfl
theorem tw_413 : Cond.selects RX5 yX5_addParts yX5_addParts ∈ z_TB := z_t2 (i := 173) (by decide +kernel) rfl
theorem tw_414 : Cond.code yX5_addParts cX5_addParts 3 none ∈ z_TB := z_t2 (i := 174) (by decide +kernel) rfl
theorem tw_415 : Cond.fieldLink RX5 21 RX5 "WITH" "[J" ∈ z_TB := z_t2 (i := 175) (by decide +kernel) rfl
theorem tn_416 : Cond.laysStatic RX5 "WITH" "[J" ∈ lw_tbl := z_l2 (i := 176) (by decide +kernel)
theorem tw_417 : Cond.methodLink RX5 46 yX5_flip ∈ z_TB := z_t2 (i := 177) (by decide +kernel) rfl
theorem tw_418 : Cond.instanceMethod yX5_flip ∈ z_TB := z_t2 (i := 178) (by decide +kernel) rfl
theorem tw_419 : Cond.selects RX5 yX5_flip yX5_flip ∈ z_TB := z_t2 (i := 179) (by decide +kernel) rfl
theorem tw_420 : Cond.code yX5_flip cX5_flip 2 none ∈ z_TB := z_t2 (i := 180) (by decide +kernel) rfl
theorem tw_421 : Cond.constantLong RX5 19 (-1) ∈ z_TB := z_t2 (i := 181) (by decide +kernel) rfl
theorem tw_422 : Cond.methodLink RX7 171 yX7_findDual ∈ z_TB := z_t2 (i := 182) (by decide +kernel) rfl
theorem tw_424 : Cond.instanceMethod yX7_findDual ∈ z_TB := z_t2 (i := 184) (by decide +kernel) rfl
theorem tw_425 : Cond.code yX7_findDual cX7_findDual 2 none ∈ z_TB := z_t2 (i := 185) (by decide +kernel) rfl
theorem tw_426 : Cond.methodLink RX7 222 yX5_becomeLeastOf ∈ z_TB := z_t2 (i := 186) (by decide +kernel) rfl
theorem tw_427 : Cond.instanceMethod yX5_becomeLeastOf ∈ z_TB := z_t2 (i := 187) (by decide +kernel) rfl
theorem tw_428 : Cond.selects RX5 yX5_becomeLeastOf yX5_becomeLeastOf ∈ z_TB := z_t2 (i := 188) (by decide +kernel) rfl
theorem tw_429 : Cond.code yX5_becomeLeastOf cX5_becomeLeastOf 8 none ∈ z_TB := z_t2 (i := 189) (by decide +kernel) rfl
theorem tn_430 : Cond.methodLinkNest RX5 52 yX7_hasPoint RX7 ∈ lw_tbl := z_l2 (i := 190) (by decide +kernel)
theorem tw_431 : Cond.static yX7_hasPoint ∈ z_TB := z_t2 (i := 191) (by decide +kernel) rfl
theorem tw_432 : Cond.code yX7_hasPoint cX7_hasPoint 2 (some .boolean) ∈ z_TB := z_t2 (i := 192) (by decide +kernel) rfl
theorem tw_433 : Cond.methodLink RX7 315 yX5_becomeSetsOf ∈ z_TB := z_t2 (i := 193) (by decide +kernel) rfl
theorem tw_434 : Cond.instanceMethod yX5_becomeSetsOf ∈ z_TB := z_t2 (i := 194) (by decide +kernel) rfl
theorem tw_435 : Cond.selects RX5 yX5_becomeSetsOf yX5_becomeSetsOf ∈ z_TB := z_t2 (i := 195) (by decide +kernel) rfl
theorem tw_436 : Cond.code yX5_becomeSetsOf cX5_becomeSetsOf 3 none ∈ z_TB := z_t2 (i := 196) (by decide +kernel) rfl
theorem tw_437 : Cond.methodLink RX7 318 yX5_addWholes ∈ z_TB := z_t2 (i := 197) (by decide +kernel) rfl
theorem tw_438 : Cond.instanceMethod yX5_addWholes ∈ z_TB := z_t2 (i := 198) (by decide +kernel) rfl
theorem tw_439 : Cond.selects RX5 yX5_addWholes yX5_addWholes ∈ z_TB := z_t2 (i := 199) (by decide +kernel) rfl
theorem tw_440 : Cond.code yX5_addWholes cX5_addWholes 3 none ∈ z_TB := z_t2 (i := 200) (by decide +kernel) rfl
theorem tw_441 : Cond.methodLink RX7 165 yX5_flip ∈ z_TB := z_t2 (i := 201) (by decide +kernel) rfl
theorem tw_442 : Cond.methodLink RX7 321 yX5_addParts ∈ z_TB := z_t2 (i := 202) (by decide +kernel) rfl
theorem tw_443 : Cond.methodLink RX7 324 yX5_becomeOdd ∈ z_TB := z_t2 (i := 203) (by decide +kernel) rfl
theorem tw_444 : Cond.instanceMethod yX5_becomeOdd ∈ z_TB := z_t2 (i := 204) (by decide +kernel) rfl
theorem tw_445 : Cond.selects RX5 yX5_becomeOdd yX5_becomeOdd ∈ z_TB := z_t2 (i := 205) (by decide +kernel) rfl
theorem tw_446 : Cond.code yX5_becomeOdd cX5_becomeOdd 3 none ∈ z_TB := z_t2 (i := 206) (by decide +kernel) rfl
theorem tw_447 : Cond.methodLink RX5 49 yX5_keepOdd ∈ z_TB := z_t2 (i := 207) (by decide +kernel) rfl
theorem tw_448 : Cond.instanceMethod yX5_keepOdd ∈ z_TB := z_t2 (i := 208) (by decide +kernel) rfl
theorem tw_449 : Cond.selects RX5 yX5_keepOdd yX5_keepOdd ∈ z_TB := z_t2 (i := 209) (by decide +kernel) rfl
theorem tw_450 : Cond.code yX5_keepOdd cX5_keepOdd 6 none ∈ z_TB := z_t2 (i := 210) (by decide +kernel) rfl
theorem tw_451 : Cond.methodLink RX5 56 yJ6_bitCount_0f7a4 ∈ z_TB := z_t2 (i := 211) (by decide +kernel) rfl
theorem tw_452 : Cond.static yJ6_bitCount_0f7a4 ∈ z_TB := z_t2 (i := 212) (by decide +kernel) rfl
theorem tw_453 : Cond.code yJ6_bitCount_0f7a4 cJ6_bitCount_0f7a4 1 (some .int) ∈ z_TB := z_t2 (i := 213) (by decide +kernel) rfl
theorem tw_454 : Cond.constant RJ6 265 (1431655765) ∈ z_TB := z_t2 (i := 214) (by decide +kernel) rfl
theorem tw_455 : Cond.constant RJ6 266 (858993459) ∈ z_TB := z_t2 (i := 215) (by decide +kernel) rfl
theorem tw_456 : Cond.constant RJ6 267 (252645135) ∈ z_TB := z_t2 (i := 216) (by decide +kernel) rfl
theorem tw_457 : Cond.methodLink RX7 162 yX5_has ∈ z_TB := z_t2 (i := 217) (by decide +kernel) rfl
theorem tw_458 : Cond.instanceMethod yX5_has ∈ z_TB := z_t2 (i := 218) (by decide +kernel) rfl
theorem tw_459 : Cond.selects RX5 yX5_has yX5_has ∈ z_TB := z_t2 (i := 219) (by decide +kernel) rfl
theorem tw_460 : Cond.code yX5_has cX5_has 2 (some .boolean) ∈ z_TB := z_t2 (i := 220) (by decide +kernel) rfl
theorem tw_461 : Cond.methodLink RL 77 yX7_counted ∈ z_TB := z_t2 (i := 221) (by decide +kernel) rfl
theorem tw_462 : Cond.instanceMethod yX7_counted ∈ z_TB := z_t2 (i := 222) (by decide +kernel) rfl
theorem tw_463 : Cond.selects RX7 yX7_counted yX7_counted ∈ z_TB := z_t2 (i := 223) (by decide +kernel) rfl
theorem tw_464 : Cond.code yX7_counted cX7_counted 6 (some .int) ∈ z_TB := z_t2 (i := 224) (by decide +kernel) rfl
theorem tw_465 : Cond.methodLink RX7 168 yX5_countOf ∈ z_TB := z_t2 (i := 225) (by decide +kernel) rfl
theorem tw_466 : Cond.instanceMethod yX5_countOf ∈ z_TB := z_t2 (i := 226) (by decide +kernel) rfl
theorem tw_467 : Cond.selects RX5 yX5_countOf yX5_countOf ∈ z_TB := z_t2 (i := 227) (by decide +kernel) rfl
theorem tw_468 : Cond.code yX5_countOf cX5_countOf 5 (some .int) ∈ z_TB := z_t2 (i := 228) (by decide +kernel) rfl
theorem tw_469 : Cond.fieldLink RX5 80 RX5 "OF_COUNT" "[J" ∈ z_TB := z_t2 (i := 229) (by decide +kernel) rfl
theorem tn_470 : Cond.laysStatic RX5 "OF_COUNT" "[J" ∈ lw_tbl := z_l2 (i := 230) (by decide +kernel)
theorem tw_471 : Cond.methodLink RX5 75 yJ13_bitCount_95d88 ∈ z_TB := z_t2 (i := 231) (by decide +kernel) rfl
theorem tw_472 : Cond.static yJ13_bitCount_95d88 ∈ z_TB := z_t2 (i := 232) (by decide +kernel) rfl
theorem tw_473 : Cond.code yJ13_bitCount_95d88 cJ13_bitCount_95d88 2 (some .int) ∈ z_TB := z_t2 (i := 233) (by decide +kernel) rfl
theorem tw_474 : Cond.constantLong RJ13 314 (6148914691236517205) ∈ z_TB := z_t2 (i := 234) (by decide +kernel) rfl
theorem tw_475 : Cond.constantLong RJ13 316 (3689348814741910323) ∈ z_TB := z_t2 (i := 235) (by decide +kernel) rfl
theorem tw_476 : Cond.constantLong RJ13 318 (1085102592571150095) ∈ z_TB := z_t2 (i := 236) (by decide +kernel) rfl
theorem tw_477 : Cond.methodLink RL 82 yX7_dual ∈ z_TB := z_t2 (i := 237) (by decide +kernel) rfl
theorem tw_478 : Cond.instanceMethod yX7_dual ∈ z_TB := z_t2 (i := 238) (by decide +kernel) rfl
theorem tw_479 : Cond.selects RX7 yX7_dual yX7_dual ∈ z_TB := z_t2 (i := 239) (by decide +kernel) rfl
theorem tw_480 : Cond.code yX7_dual cX7_dual 3 (some .int) ∈ z_TB := z_t3 (i := 0) (by decide +kernel) rfl
theorem tw_481 : Cond.methodLink RX7 174 yX7_listed ∈ z_TB := z_t3 (i := 1) (by decide +kernel) rfl
theorem tw_482 : Cond.static yX7_listed ∈ z_TB := z_t3 (i := 2) (by decide +kernel) rfl
theorem tw_483 : Cond.code yX7_listed cX7_listed 2 (some .int) ∈ z_TB := z_t3 (i := 3) (by decide +kernel) rfl
theorem tw_484 : Cond.methodLink RX7 178 yX5_countAll ∈ z_TB := z_t3 (i := 4) (by decide +kernel) rfl
theorem tw_485 : Cond.instanceMethod yX5_countAll ∈ z_TB := z_t3 (i := 5) (by decide +kernel) rfl
theorem tw_486 : Cond.selects RX5 yX5_countAll yX5_countAll ∈ z_TB := z_t3 (i := 6) (by decide +kernel) rfl
theorem tw_487 : Cond.code yX5_countAll cX5_countAll 3 (some .int) ∈ z_TB := z_t3 (i := 7) (by decide +kernel) rfl
theorem tw_488 : Cond.methodLink RX7 181 yX5_pick ∈ z_TB := z_t3 (i := 8) (by decide +kernel) rfl
theorem tw_489 : Cond.instanceMethod yX5_pick ∈ z_TB := z_t3 (i := 9) (by decide +kernel) rfl
theorem tw_490 : Cond.selects RX5 yX5_pick yX5_pick ∈ z_TB := z_t3 (i := 10) (by decide +kernel) rfl
theorem tw_491 : Cond.code yX5_pick cX5_pick 5 (some .int) ∈ z_TB := z_t3 (i := 11) (by decide +kernel) rfl
theorem tw_492 : Cond.methodLink RX5 83 yX5_placeOfBit ∈ z_TB := z_t3 (i := 12) (by decide +kernel) rfl
theorem tw_493 : Cond.static yX5_placeOfBit ∈ z_TB := z_t3 (i := 13) (by decide +kernel) rfl
theorem tw_494 : Cond.code yX5_placeOfBit cX5_placeOfBit 6 (some .int) ∈ z_TB := z_t3 (i := 14) (by decide +kernel) rfl
theorem tw_495 : Cond.methodLink RL 86 yX7_into ∈ z_TB := z_t3 (i := 15) (by decide +kernel) rfl
theorem tw_496 : Cond.instanceMethod yX7_into ∈ z_TB := z_t3 (i := 16) (by decide +kernel) rfl
theorem tw_497 : Cond.selects RX7 yX7_into yX7_into ∈ z_TB := z_t3 (i := 17) (by decide +kernel) rfl
theorem tw_498 : Cond.code yX7_into cX7_into 5 (some .int) ∈ z_TB := z_t3 (i := 18) (by decide +kernel) rfl
theorem tw_499 : Cond.methodLink RL 90 yX7_verdict ∈ z_TB := z_t3 (i := 19) (by decide +kernel) rfl
theorem tw_500 : Cond.instanceMethod yX7_verdict ∈ z_TB := z_t3 (i := 20) (by decide +kernel) rfl
theorem tw_501 : Cond.selects RX7 yX7_verdict yX7_verdict ∈ z_TB := z_t3 (i := 21) (by decide +kernel) rfl
theorem tw_502 : Cond.code yX7_verdict cX7_verdict 7 (some .int) ∈ z_TB := z_t3 (i := 22) (by decide +kernel) rfl
theorem tw_503 : Cond.methodLink RX7 184 yX1_firstOutside ∈ z_TB := z_t3 (i := 23) (by decide +kernel) rfl
theorem tw_504 : Cond.instanceMethod yX1_firstOutside ∈ z_TB := z_t3 (i := 24) (by decide +kernel) rfl
theorem tw_505 : Cond.selects RX1 yX1_firstOutside yX1_firstOutside ∈ z_TB := z_t3 (i := 25) (by decide +kernel) rfl
theorem tw_506 : Cond.code yX1_firstOutside cX1_firstOutside 3 (some .int) ∈ z_TB := z_t3 (i := 26) (by decide +kernel) rfl
theorem tw_507 : Cond.methodLink RX1 52 yX5_has ∈ z_TB := z_t3 (i := 27) (by decide +kernel) rfl
theorem tw_508 : Cond.methodLink RX7 188 yX7_firstNotHeld ∈ z_TB := z_t3 (i := 28) (by decide +kernel) rfl
theorem tw_509 : Cond.static yX7_firstNotHeld ∈ z_TB := z_t3 (i := 29) (by decide +kernel) rfl
theorem tw_510 : Cond.code yX7_firstNotHeld cX7_firstNotHeld 4 (some .int) ∈ z_TB := z_t3 (i := 30) (by decide +kernel) rfl
theorem tw_511 : Cond.methodLink RX7 263 yX5_next ∈ z_TB := z_t3 (i := 31) (by decide +kernel) rfl
theorem tw_512 : Cond.instanceMethod yX5_next ∈ z_TB := z_t3 (i := 32) (by decide +kernel) rfl
theorem tw_513 : Cond.selects RX5 yX5_next yX5_next ∈ z_TB := z_t3 (i := 33) (by decide +kernel) rfl
theorem tw_514 : Cond.code yX5_next cX5_next 5 (some .int) ∈ z_TB := z_t3 (i := 34) (by decide +kernel) rfl
theorem tn_515 : Cond.methodLinkNest RX5 87 yX7_isNoSet RX7 ∈ lw_tbl := z_l3 (i := 35) (by decide +kernel)
theorem tw_516 : Cond.methodLink RX7 327 yX1_placeOf ∈ z_TB := z_t3 (i := 36) (by decide +kernel) rfl
theorem tw_517 : Cond.methodLink RL 94 yX7_tree ∈ z_TB := z_t3 (i := 37) (by decide +kernel) rfl
theorem tw_518 : Cond.instanceMethod yX7_tree ∈ z_TB := z_t3 (i := 38) (by decide +kernel) rfl
theorem tw_519 : Cond.selects RX7 yX7_tree yX7_tree ∈ z_TB := z_t3 (i := 39) (by decide +kernel) rfl
theorem tw_520 : Cond.code yX7_tree cX7_tree 3 (some .int) ∈ z_TB := z_t3 (i := 40) (by decide +kernel) rfl
theorem tw_521 : Cond.methodLink RX7 192 yX6_start ∈ z_TB := z_t3 (i := 41) (by decide +kernel) rfl
theorem tw_522 : Cond.instanceMethod yX6_start ∈ z_TB := z_t3 (i := 42) (by decide +kernel) rfl
theorem tw_523 : Cond.selects RX6 yX6_start yX6_start ∈ z_TB := z_t3 (i := 43) (by decide +kernel) rfl
theorem tw_524 : Cond.code yX6_start cX6_start 5 none ∈ z_TB := z_t3 (i := 44) (by decide +kernel) rfl
theorem tw_525 : Cond.methodLink RX6 38 yX1_hasPart ∈ z_TB := z_t3 (i := 45) (by decide +kernel) rfl
theorem tw_526 : Cond.methodLink RX6 46 yX6_visit ∈ z_TB := z_t3 (i := 46) (by decide +kernel) rfl
theorem tw_528 : Cond.instanceMethod yX6_visit ∈ z_TB := z_t3 (i := 48) (by decide +kernel) rfl
theorem tw_529 : Cond.code yX6_visit cX6_visit 5 none ∈ z_TB := z_t3 (i := 49) (by decide +kernel) rfl
theorem tn_530 : Cond.methodLinkNest RX6 50 yX7_topPoint RX7 ∈ lw_tbl := z_l3 (i := 50) (by decide +kernel)
theorem tw_531 : Cond.methodLink RX6 65 yJ9_max_7cf53 ∈ z_TB := z_t3 (i := 51) (by decide +kernel) rfl
theorem tw_532 : Cond.methodLink RX6 71 yX6_keepWithout ∈ z_TB := z_t3 (i := 52) (by decide +kernel) rfl
theorem tw_534 : Cond.instanceMethod yX6_keepWithout ∈ z_TB := z_t3 (i := 54) (by decide +kernel) rfl
theorem tw_535 : Cond.code yX6_keepWithout cX6_keepWithout 8 (some .int) ∈ z_TB := z_t3 (i := 55) (by decide +kernel) rfl
theorem tn_536 : Cond.methodLinkNest RX6 78 yX7_hasPoint RX7 ∈ lw_tbl := z_l3 (i := 56) (by decide +kernel)
theorem tw_537 : Cond.methodLink RX6 75 yX6_keepReduced ∈ z_TB := z_t3 (i := 57) (by decide +kernel) rfl
theorem tw_539 : Cond.instanceMethod yX6_keepReduced ∈ z_TB := z_t3 (i := 59) (by decide +kernel) rfl
theorem tw_540 : Cond.code yX6_keepReduced cX6_keepReduced 9 (some .int) ∈ z_TB := z_t3 (i := 60) (by decide +kernel) rfl
theorem tw_541 : Cond.methodLink RX6 82 yX6_hasPartIn ∈ z_TB := z_t3 (i := 61) (by decide +kernel) rfl
theorem tw_542 : Cond.static yX6_hasPartIn ∈ z_TB := z_t3 (i := 62) (by decide +kernel) rfl
theorem tw_543 : Cond.code yX6_hasPartIn cX6_hasPartIn 4 (some .boolean) ∈ z_TB := z_t3 (i := 63) (by decide +kernel) rfl
theorem tn_544 : Cond.methodLinkNest RX6 86 yX7_isPart RX7 ∈ lw_tbl := z_l3 (i := 64) (by decide +kernel)
theorem tw_545 : Cond.methodLink RL 98 yX7_node ∈ z_TB := z_t3 (i := 65) (by decide +kernel) rfl
theorem tw_546 : Cond.instanceMethod yX7_node ∈ z_TB := z_t3 (i := 66) (by decide +kernel) rfl
theorem tw_547 : Cond.selects RX7 yX7_node yX7_node ∈ z_TB := z_t3 (i := 67) (by decide +kernel) rfl
theorem tw_548 : Cond.code yX7_node cX7_node 4 (some .int) ∈ z_TB := z_t3 (i := 68) (by decide +kernel) rfl
theorem tw_549 : Cond.methodLink RL 102 yX7_keys ∈ z_TB := z_t3 (i := 69) (by decide +kernel) rfl
theorem tw_550 : Cond.instanceMethod yX7_keys ∈ z_TB := z_t3 (i := 70) (by decide +kernel) rfl
theorem tw_551 : Cond.selects RX7 yX7_keys yX7_keys ∈ z_TB := z_t3 (i := 71) (by decide +kernel) rfl
theorem tw_552 : Cond.code yX7_keys cX7_keys 3 (some .int) ∈ z_TB := z_t3 (i := 72) (by decide +kernel) rfl
theorem tw_553 : Cond.methodLink RX7 219 yX5_becomeTelling ∈ z_TB := z_t3 (i := 73) (by decide +kernel) rfl
theorem tw_554 : Cond.instanceMethod yX5_becomeTelling ∈ z_TB := z_t3 (i := 74) (by decide +kernel) rfl
theorem tw_555 : Cond.selects RX5 yX5_becomeTelling yX5_becomeTelling ∈ z_TB := z_t3 (i := 75) (by decide +kernel) rfl
theorem tw_556 : Cond.code yX5_becomeTelling cX5_becomeTelling 4 none ∈ z_TB := z_t3 (i := 76) (by decide +kernel) rfl
theorem tw_557 : Cond.methodLink RL 106 yX7_support ∈ z_TB := z_t3 (i := 77) (by decide +kernel) rfl
theorem tw_558 : Cond.instanceMethod yX7_support ∈ z_TB := z_t3 (i := 78) (by decide +kernel) rfl
theorem tw_559 : Cond.selects RX7 yX7_support yX7_support ∈ z_TB := z_t3 (i := 79) (by decide +kernel) rfl
theorem tw_560 : Cond.code yX7_support cX7_support 3 (some .int) ∈ z_TB := z_t3 (i := 80) (by decide +kernel) rfl
theorem tw_561 : Cond.methodLink RX7 226 yX1_talliesAround ∈ z_TB := z_t3 (i := 81) (by decide +kernel) rfl
theorem tw_562 : Cond.instanceMethod yX1_talliesAround ∈ z_TB := z_t3 (i := 82) (by decide +kernel) rfl
theorem tw_563 : Cond.selects RX1 yX1_talliesAround yX1_talliesAround ∈ z_TB := z_t3 (i := 83) (by decide +kernel) rfl
theorem tw_564 : Cond.code yX1_talliesAround cX1_talliesAround 4 (some .int) ∈ z_TB := z_t3 (i := 84) (by decide +kernel) rfl
theorem tw_565 : Cond.methodLink RL 110 yX7_border ∈ z_TB := z_t3 (i := 85) (by decide +kernel) rfl
theorem tw_566 : Cond.instanceMethod yX7_border ∈ z_TB := z_t3 (i := 86) (by decide +kernel) rfl
theorem tw_567 : Cond.selects RX7 yX7_border yX7_border ∈ z_TB := z_t3 (i := 87) (by decide +kernel) rfl
theorem tw_568 : Cond.code yX7_border cX7_border 5 (some .int) ∈ z_TB := z_t3 (i := 88) (by decide +kernel) rfl
theorem tw_569 : Cond.methodLink RX7 229 yX5_becomeCommon ∈ z_TB := z_t3 (i := 89) (by decide +kernel) rfl
theorem tw_570 : Cond.instanceMethod yX5_becomeCommon ∈ z_TB := z_t3 (i := 90) (by decide +kernel) rfl
theorem tw_571 : Cond.selects RX5 yX5_becomeCommon yX5_becomeCommon ∈ z_TB := z_t3 (i := 91) (by decide +kernel) rfl
theorem tw_572 : Cond.code yX5_becomeCommon cX5_becomeCommon 4 none ∈ z_TB := z_t3 (i := 92) (by decide +kernel) rfl
theorem tw_573 : Cond.methodLink RX5 62 yX5_commonWord ∈ z_TB := z_t3 (i := 93) (by decide +kernel) rfl
theorem tw_575 : Cond.instanceMethod yX5_commonWord ∈ z_TB := z_t3 (i := 95) (by decide +kernel) rfl
theorem tw_576 : Cond.code yX5_commonWord cX5_commonWord 8 (some .long) ∈ z_TB := z_t3 (i := 96) (by decide +kernel) rfl
theorem tw_577 : Cond.methodLink RX5 66 yJ7_fill_53178 ∈ z_TB := z_t3 (i := 97) (by decide +kernel) rfl
theorem tn_578 : Cond.methodLinkNest RX5 69 yX7_isPart RX7 ∈ lw_tbl := z_l3 (i := 98) (by decide +kernel)
theorem tw_579 : Cond.methodLink RX7 232 yX5_becomeGreatestOf ∈ z_TB := z_t3 (i := 99) (by decide +kernel) rfl
theorem tw_580 : Cond.instanceMethod yX5_becomeGreatestOf ∈ z_TB := z_t3 (i := 100) (by decide +kernel) rfl
theorem tw_581 : Cond.selects RX5 yX5_becomeGreatestOf yX5_becomeGreatestOf ∈ z_TB := z_t3 (i := 101) (by decide +kernel) rfl
theorem tw_582 : Cond.code yX5_becomeGreatestOf cX5_becomeGreatestOf 8 none ∈ z_TB := z_t3 (i := 102) (by decide +kernel) rfl
theorem tw_583 : Cond.methodLink RL 114 yX7_make ∈ z_TB := z_t3 (i := 103) (by decide +kernel) rfl
theorem tw_584 : Cond.instanceMethod yX7_make ∈ z_TB := z_t3 (i := 104) (by decide +kernel) rfl
theorem tw_585 : Cond.selects RX7 yX7_make yX7_make ∈ z_TB := z_t3 (i := 105) (by decide +kernel) rfl
theorem tw_586 : Cond.code yX7_make cX7_make 5 (some .int) ∈ z_TB := z_t3 (i := 106) (by decide +kernel) rfl
theorem tw_587 : Cond.methodLink RX7 235 yX7_canMake ∈ z_TB := z_t3 (i := 107) (by decide +kernel) rfl
theorem tw_588 : Cond.static yX7_canMake ∈ z_TB := z_t3 (i := 108) (by decide +kernel) rfl
theorem tw_589 : Cond.code yX7_canMake cX7_canMake 3 (some .boolean) ∈ z_TB := z_t3 (i := 109) (by decide +kernel) rfl
theorem tw_590 : Cond.methodLink RX7 239 yX7_fillSpare ∈ z_TB := z_t3 (i := 110) (by decide +kernel) rfl
theorem tw_592 : Cond.instanceMethod yX7_fillSpare ∈ z_TB := z_t3 (i := 112) (by decide +kernel) rfl
theorem tw_593 : Cond.code yX7_fillSpare cX7_fillSpare 7 (some .boolean) ∈ z_TB := z_t3 (i := 113) (by decide +kernel) rfl
theorem tw_594 : Cond.methodLink RX7 330 yJ6_bitCount_0f7a4 ∈ z_TB := z_t3 (i := 114) (by decide +kernel) rfl
theorem tw_595 : Cond.methodLink RX7 335 yX7_madeSet ∈ z_TB := z_t3 (i := 115) (by decide +kernel) rfl
theorem tw_596 : Cond.static yX7_madeSet ∈ z_TB := z_t3 (i := 116) (by decide +kernel) rfl
theorem tw_597 : Cond.code yX7_madeSet cX7_madeSet 4 (some .int) ∈ z_TB := z_t3 (i := 117) (by decide +kernel) rfl
theorem tw_598 : Cond.methodLink RX7 339 yX7_ringSet ∈ z_TB := z_t3 (i := 118) (by decide +kernel) rfl
theorem tw_599 : Cond.static yX7_ringSet ∈ z_TB := z_t3 (i := 119) (by decide +kernel) rfl
theorem tw_600 : Cond.code yX7_ringSet cX7_ringSet 5 (some .int) ∈ z_TB := z_t3 (i := 120) (by decide +kernel) rfl
theorem tw_601 : Cond.methodLink RX7 343 yX7_classSet ∈ z_TB := z_t3 (i := 121) (by decide +kernel) rfl
theorem tw_602 : Cond.static yX7_classSet ∈ z_TB := z_t3 (i := 122) (by decide +kernel) rfl
theorem tw_603 : Cond.code yX7_classSet cX7_classSet 4 (some .int) ∈ z_TB := z_t3 (i := 123) (by decide +kernel) rfl
theorem tw_604 : Cond.methodLink RL 118 yX7_rule ∈ z_TB := z_t3 (i := 124) (by decide +kernel) rfl
theorem tw_605 : Cond.instanceMethod yX7_rule ∈ z_TB := z_t3 (i := 125) (by decide +kernel) rfl
theorem tw_606 : Cond.selects RX7 yX7_rule yX7_rule ∈ z_TB := z_t3 (i := 126) (by decide +kernel) rfl
theorem tw_607 : Cond.code yX7_rule cX7_rule 5 (some .int) ∈ z_TB := z_t3 (i := 127) (by decide +kernel) rfl
theorem tw_608 : Cond.methodLink RX7 242 yX7_fitsHow ∈ z_TB := z_t3 (i := 128) (by decide +kernel) rfl
theorem tw_609 : Cond.static yX7_fitsHow ∈ z_TB := z_t3 (i := 129) (by decide +kernel) rfl
theorem tw_610 : Cond.code yX7_fitsHow cX7_fitsHow 2 (some .boolean) ∈ z_TB := z_t3 (i := 130) (by decide +kernel) rfl
theorem tw_611 : Cond.methodLink RX7 246 yX7_asksFirst ∈ z_TB := z_t3 (i := 131) (by decide +kernel) rfl
theorem tw_612 : Cond.static yX7_asksFirst ∈ z_TB := z_t3 (i := 132) (by decide +kernel) rfl
theorem tw_613 : Cond.code yX7_asksFirst cX7_asksFirst 1 (some .boolean) ∈ z_TB := z_t3 (i := 133) (by decide +kernel) rfl
theorem tw_614 : Cond.methodLink RX7 249 yX7_isNoRule ∈ z_TB := z_t3 (i := 134) (by decide +kernel) rfl
theorem tw_616 : Cond.instanceMethod yX7_isNoRule ∈ z_TB := z_t3 (i := 136) (by decide +kernel) rfl
theorem tw_617 : Cond.code yX7_isNoRule cX7_isNoRule 2 (some .boolean) ∈ z_TB := z_t3 (i := 137) (by decide +kernel) rfl
theorem tw_618 : Cond.methodLink RX7 252 yX7_asksSecond ∈ z_TB := z_t3 (i := 138) (by decide +kernel) rfl
theorem tw_619 : Cond.static yX7_asksSecond ∈ z_TB := z_t3 (i := 139) (by decide +kernel) rfl
theorem tw_620 : Cond.code yX7_asksSecond cX7_asksSecond 1 (some .boolean) ∈ z_TB := z_t3 (i := 140) (by decide +kernel) rfl
theorem tw_621 : Cond.methodLink RX7 257 yX2_become ∈ z_TB := z_t3 (i := 141) (by decide +kernel) rfl
theorem tw_622 : Cond.instanceMethod yX2_become ∈ z_TB := z_t3 (i := 142) (by decide +kernel) rfl
theorem tw_623 : Cond.selects RX2 yX2_become yX2_become ∈ z_TB := z_t3 (i := 143) (by decide +kernel) rfl
theorem tw_624 : Cond.code yX2_become cX2_become 6 none ∈ z_TB := z_t3 (i := 144) (by decide +kernel) rfl
theorem tw_625 : Cond.methodLink RX2 31 arraycopyName ∈ z_TB := z_t3 (i := 145) (by decide +kernel) rfl
theorem tw_626 : Cond.methodLink RL 122 yX7_worth ∈ z_TB := z_t3 (i := 146) (by decide +kernel) rfl
theorem tw_627 : Cond.instanceMethod yX7_worth ∈ z_TB := z_t3 (i := 147) (by decide +kernel) rfl
theorem tw_628 : Cond.selects RX7 yX7_worth yX7_worth ∈ z_TB := z_t3 (i := 148) (by decide +kernel) rfl
theorem tw_629 : Cond.code yX7_worth cX7_worth 3 (some .int) ∈ z_TB := z_t3 (i := 149) (by decide +kernel) rfl
theorem tw_630 : Cond.methodLink RX7 260 yX7_tellsNow ∈ z_TB := z_t3 (i := 150) (by decide +kernel) rfl
theorem tw_632 : Cond.instanceMethod yX7_tellsNow ∈ z_TB := z_t3 (i := 152) (by decide +kernel) rfl
theorem tw_633 : Cond.code yX7_tellsNow cX7_tellsNow 4 (some .int) ∈ z_TB := z_t3 (i := 153) (by decide +kernel) rfl
theorem tw_634 : Cond.methodLink RX7 349 yX7_tells ∈ z_TB := z_t3 (i := 154) (by decide +kernel) rfl
theorem tw_636 : Cond.instanceMethod yX7_tells ∈ z_TB := z_t3 (i := 156) (by decide +kernel) rfl
theorem tw_637 : Cond.code yX7_tells cX7_tells 5 (some .int) ∈ z_TB := z_t3 (i := 157) (by decide +kernel) rfl
theorem tw_638 : Cond.methodLink RX7 352 yX7_tellsByParts ∈ z_TB := z_t3 (i := 158) (by decide +kernel) rfl
theorem tw_640 : Cond.instanceMethod yX7_tellsByParts ∈ z_TB := z_t3 (i := 160) (by decide +kernel) rfl
theorem tw_641 : Cond.code yX7_tellsByParts cX7_tellsByParts 4 (some .int) ∈ z_TB := z_t3 (i := 161) (by decide +kernel) rfl
theorem tw_642 : Cond.methodLink RX7 368 yJ9_max_7cf53 ∈ z_TB := z_t3 (i := 162) (by decide +kernel) rfl
theorem tw_643 : Cond.methodLink RX7 376 yX7_shifted ∈ z_TB := z_t3 (i := 163) (by decide +kernel) rfl
theorem tw_644 : Cond.static yX7_shifted ∈ z_TB := z_t3 (i := 164) (by decide +kernel) rfl
theorem tw_645 : Cond.code yX7_shifted cX7_shifted 2 (some .int) ∈ z_TB := z_t3 (i := 165) (by decide +kernel) rfl
theorem tw_646 : Cond.methodLink RX7 379 yX7_hasPoint ∈ z_TB := z_t3 (i := 166) (by decide +kernel) rfl
theorem tw_647 : Cond.methodLink RX7 382 yX7_tellsAlone ∈ z_TB := z_t3 (i := 167) (by decide +kernel) rfl
theorem tw_649 : Cond.instanceMethod yX7_tellsAlone ∈ z_TB := z_t3 (i := 169) (by decide +kernel) rfl
theorem tw_650 : Cond.code yX7_tellsAlone cX7_tellsAlone 3 (some .int) ∈ z_TB := z_t3 (i := 170) (by decide +kernel) rfl
theorem tw_651 : Cond.methodLink RX7 308 yX7_priceOfAll ∈ z_TB := z_t3 (i := 171) (by decide +kernel) rfl
theorem tw_652 : Cond.static yX7_priceOfAll ∈ z_TB := z_t3 (i := 172) (by decide +kernel) rfl
theorem tw_653 : Cond.code yX7_priceOfAll cX7_priceOfAll 4 (some .int) ∈ z_TB := z_t3 (i := 173) (by decide +kernel) rfl
theorem tw_654 : Cond.methodLink RX7 387 yX1_countMet ∈ z_TB := z_t3 (i := 174) (by decide +kernel) rfl
theorem tw_655 : Cond.methodLink RX7 390 yX7_dearest ∈ z_TB := z_t3 (i := 175) (by decide +kernel) rfl
theorem tw_656 : Cond.static yX7_dearest ∈ z_TB := z_t3 (i := 176) (by decide +kernel) rfl
theorem tw_657 : Cond.code yX7_dearest cX7_dearest 4 (some .int) ∈ z_TB := z_t3 (i := 177) (by decide +kernel) rfl
theorem tw_658 : Cond.methodLink RL 126 yX7_best ∈ z_TB := z_t3 (i := 178) (by decide +kernel) rfl
theorem tw_659 : Cond.instanceMethod yX7_best ∈ z_TB := z_t3 (i := 179) (by decide +kernel) rfl
theorem tw_660 : Cond.selects RX7 yX7_best yX7_best ∈ z_TB := z_t3 (i := 180) (by decide +kernel) rfl
theorem tw_661 : Cond.code yX7_best cX7_best 9 (some .int) ∈ z_TB := z_t3 (i := 181) (by decide +kernel) rfl
theorem tw_662 : Cond.methodLink RL 130 yX7_ranked ∈ z_TB := z_t3 (i := 182) (by decide +kernel) rfl
theorem tw_663 : Cond.instanceMethod yX7_ranked ∈ z_TB := z_t3 (i := 183) (by decide +kernel) rfl
theorem tw_664 : Cond.selects RX7 yX7_ranked yX7_ranked ∈ z_TB := z_t3 (i := 184) (by decide +kernel) rfl
theorem tw_665 : Cond.code yX7_ranked cX7_ranked 6 (some .int) ∈ z_TB := z_t3 (i := 185) (by decide +kernel) rfl
theorem tw_666 : Cond.methodLink RX7 266 yX7_rankOf ∈ z_TB := z_t3 (i := 186) (by decide +kernel) rfl
theorem tw_668 : Cond.instanceMethod yX7_rankOf ∈ z_TB := z_t3 (i := 188) (by decide +kernel) rfl
theorem tw_669 : Cond.code yX7_rankOf cX7_rankOf 5 (some .int) ∈ z_TB := z_t3 (i := 189) (by decide +kernel) rfl
theorem tw_670 : Cond.methodLink RL 134 yX7_sums ∈ z_TB := z_t3 (i := 190) (by decide +kernel) rfl
theorem tw_671 : Cond.instanceMethod yX7_sums ∈ z_TB := z_t3 (i := 191) (by decide +kernel) rfl
theorem tw_672 : Cond.selects RX7 yX7_sums yX7_sums ∈ z_TB := z_t3 (i := 192) (by decide +kernel) rfl
theorem tw_673 : Cond.code yX7_sums cX7_sums 6 (some .int) ∈ z_TB := z_t3 (i := 193) (by decide +kernel) rfl
theorem tw_674 : Cond.methodLink RL 138 yX7_sheet ∈ z_TB := z_t3 (i := 194) (by decide +kernel) rfl
theorem tw_675 : Cond.instanceMethod yX7_sheet ∈ z_TB := z_t3 (i := 195) (by decide +kernel) rfl
theorem tw_676 : Cond.selects RX7 yX7_sheet yX7_sheet ∈ z_TB := z_t3 (i := 196) (by decide +kernel) rfl
theorem tw_677 : Cond.code yX7_sheet cX7_sheet 4 (some .int) ∈ z_TB := z_t3 (i := 197) (by decide +kernel) rfl
theorem tw_678 : Cond.methodLink RX7 269 yX7_isNoSheet ∈ z_TB := z_t3 (i := 198) (by decide +kernel) rfl
theorem tw_679 : Cond.static yX7_isNoSheet ∈ z_TB := z_t3 (i := 199) (by decide +kernel) rfl
theorem tw_680 : Cond.code yX7_isNoSheet cX7_isNoSheet 1 (some .boolean) ∈ z_TB := z_t3 (i := 200) (by decide +kernel) rfl
theorem tw_681 : Cond.methodLink RX7 272 yX3_become ∈ z_TB := z_t3 (i := 201) (by decide +kernel) rfl
theorem tw_682 : Cond.instanceMethod yX3_become ∈ z_TB := z_t3 (i := 202) (by decide +kernel) rfl
theorem tw_683 : Cond.selects RX3 yX3_become yX3_become ∈ z_TB := z_t3 (i := 203) (by decide +kernel) rfl
theorem tw_684 : Cond.code yX3_become cX3_become 3 none ∈ z_TB := z_t3 (i := 204) (by decide +kernel) rfl
theorem tw_685 : Cond.methodLink RX3 22 yJ7_fill_d0a16 ∈ z_TB := z_t3 (i := 205) (by decide +kernel) rfl
theorem tw_686 : Cond.methodLink RL 144 yX7_cell ∈ z_TB := z_t3 (i := 206) (by decide +kernel) rfl
theorem tw_687 : Cond.instanceMethod yX7_cell ∈ z_TB := z_t3 (i := 207) (by decide +kernel) rfl
theorem tw_688 : Cond.selects RX7 yX7_cell yX7_cell ∈ z_TB := z_t3 (i := 208) (by decide +kernel) rfl
theorem tw_689 : Cond.code yX7_cell cX7_cell 5 (some .int) ∈ z_TB := z_t3 (i := 209) (by decide +kernel) rfl
theorem tw_690 : Cond.methodLink RX7 278 yX3_put ∈ z_TB := z_t3 (i := 210) (by decide +kernel) rfl
theorem tw_691 : Cond.instanceMethod yX3_put ∈ z_TB := z_t3 (i := 211) (by decide +kernel) rfl
theorem tw_692 : Cond.selects RX3 yX3_put yX3_put ∈ z_TB := z_t3 (i := 212) (by decide +kernel) rfl
theorem tw_693 : Cond.code yX3_put cX3_put 4 (some .boolean) ∈ z_TB := z_t3 (i := 213) (by decide +kernel) rfl
theorem tw_694 : Cond.methodLink RL 149 yX7_read ∈ z_TB := z_t3 (i := 214) (by decide +kernel) rfl
theorem tw_695 : Cond.instanceMethod yX7_read ∈ z_TB := z_t3 (i := 215) (by decide +kernel) rfl
theorem tw_696 : Cond.selects RX7 yX7_read yX7_read ∈ z_TB := z_t3 (i := 216) (by decide +kernel) rfl
theorem tw_697 : Cond.code yX7_read cX7_read 4 (some .long) ∈ z_TB := z_t3 (i := 217) (by decide +kernel) rfl
theorem tw_698 : Cond.constantLong RX7 282 (-2) ∈ z_TB := z_t3 (i := 218) (by decide +kernel) rfl
theorem tw_699 : Cond.constantLong RX7 284 (-11) ∈ z_TB := z_t3 (i := 219) (by decide +kernel) rfl
theorem tw_700 : Cond.constantLong RX7 289 (-12) ∈ z_TB := z_t3 (i := 220) (by decide +kernel) rfl
theorem tw_701 : Cond.methodLink RL 154 yX7_packs ∈ z_TB := z_t3 (i := 221) (by decide +kernel) rfl
theorem tw_702 : Cond.instanceMethod yX7_packs ∈ z_TB := z_t3 (i := 222) (by decide +kernel) rfl
theorem tw_703 : Cond.selects RX7 yX7_packs yX7_packs ∈ z_TB := z_t3 (i := 223) (by decide +kernel) rfl
theorem tw_704 : Cond.code yX7_packs cX7_packs 7 (some .int) ∈ z_TB := z_t3 (i := 224) (by decide +kernel) rfl
theorem tw_705 : Cond.methodLink RX7 295 yX1_packedFrom ∈ z_TB := z_t3 (i := 225) (by decide +kernel) rfl
theorem tw_706 : Cond.instanceMethod yX1_packedFrom ∈ z_TB := z_t3 (i := 226) (by decide +kernel) rfl
theorem tw_707 : Cond.selects RX1 yX1_packedFrom yX1_packedFrom ∈ z_TB := z_t3 (i := 227) (by decide +kernel) rfl
theorem tw_708 : Cond.code yX1_packedFrom cX1_packedFrom 5 (some .long) ∈ z_TB := z_t3 (i := 228) (by decide +kernel) rfl
theorem tw_709 : Cond.methodLink RL 158 yX7_unpacks ∈ z_TB := z_t3 (i := 229) (by decide +kernel) rfl
theorem tw_710 : Cond.instanceMethod yX7_unpacks ∈ z_TB := z_t3 (i := 230) (by decide +kernel) rfl
theorem tw_711 : Cond.selects RX7 yX7_unpacks yX7_unpacks ∈ z_TB := z_t3 (i := 231) (by decide +kernel) rfl
theorem tw_712 : Cond.code yX7_unpacks cX7_unpacks 7 (some .int) ∈ z_TB := z_t3 (i := 232) (by decide +kernel) rfl
theorem tw_713 : Cond.methodLink RX7 299 yX3_packedAt ∈ z_TB := z_t3 (i := 233) (by decide +kernel) rfl
theorem tw_714 : Cond.instanceMethod yX3_packedAt ∈ z_TB := z_t3 (i := 234) (by decide +kernel) rfl
theorem tw_715 : Cond.selects RX3 yX3_packedAt yX3_packedAt ∈ z_TB := z_t3 (i := 235) (by decide +kernel) rfl
theorem tw_716 : Cond.code yX3_packedAt cX3_packedAt 2 (some .int) ∈ z_TB := z_t3 (i := 236) (by decide +kernel) rfl
theorem tw_717 : Cond.methodLink RL 162 yX7_freqs ∈ z_TB := z_t3 (i := 237) (by decide +kernel) rfl
theorem tw_718 : Cond.instanceMethod yX7_freqs ∈ z_TB := z_t3 (i := 238) (by decide +kernel) rfl
theorem tw_719 : Cond.selects RX7 yX7_freqs yX7_freqs ∈ z_TB := z_t3 (i := 239) (by decide +kernel) rfl
theorem tw_720 : Cond.code yX7_freqs cX7_freqs 4 (some .int) ∈ z_TB := z_t4 (i := 0) (by decide +kernel) rfl
theorem tw_721 : Cond.methodLink RL 166 yX7_image ∈ z_TB := z_t4 (i := 1) (by decide +kernel) rfl
theorem tw_722 : Cond.instanceMethod yX7_image ∈ z_TB := z_t4 (i := 2) (by decide +kernel) rfl
theorem tw_723 : Cond.selects RX7 yX7_image yX7_image ∈ z_TB := z_t4 (i := 3) (by decide +kernel) rfl
theorem tw_724 : Cond.code yX7_image cX7_image 1 (some .int) ∈ z_TB := z_t4 (i := 4) (by decide +kernel) rfl
theorem tw_725 : Cond.methodLink RX7 302 yX4_become ∈ z_TB := z_t4 (i := 5) (by decide +kernel) rfl
theorem tw_726 : Cond.instanceMethod yX4_become ∈ z_TB := z_t4 (i := 6) (by decide +kernel) rfl
theorem tw_727 : Cond.selects RX4 yX4_become yX4_become ∈ z_TB := z_t4 (i := 7) (by decide +kernel) rfl
theorem tw_728 : Cond.code yX4_become cX4_become 3 none ∈ z_TB := z_t4 (i := 8) (by decide +kernel) rfl
theorem tw_729 : Cond.methodLink RX4 32 arraycopyName ∈ z_TB := z_t4 (i := 9) (by decide +kernel) rfl
theorem tw_730 : Cond.methodLink RX4 38 yX1_become ∈ z_TB := z_t4 (i := 10) (by decide +kernel) rfl
theorem tw_731 : Cond.methodLink RX7 305 yX4_heldInAll ∈ z_TB := z_t4 (i := 11) (by decide +kernel) rfl
theorem tw_732 : Cond.instanceMethod yX4_heldInAll ∈ z_TB := z_t4 (i := 12) (by decide +kernel) rfl
theorem tw_733 : Cond.selects RX4 yX4_heldInAll yX4_heldInAll ∈ z_TB := z_t4 (i := 13) (by decide +kernel) rfl
theorem tw_734 : Cond.code yX4_heldInAll cX4_heldInAll 3 (some .int) ∈ z_TB := z_t4 (i := 14) (by decide +kernel) rfl
theorem tw_735 : Cond.methodLink RL 170 yX7_back ∈ z_TB := z_t4 (i := 15) (by decide +kernel) rfl
theorem tw_736 : Cond.instanceMethod yX7_back ∈ z_TB := z_t4 (i := 16) (by decide +kernel) rfl
theorem tw_737 : Cond.selects RX7 yX7_back yX7_back ∈ z_TB := z_t4 (i := 17) (by decide +kernel) rfl
theorem tw_738 : Cond.code yX7_back cX7_back 1 (some .int) ∈ z_TB := z_t4 (i := 18) (by decide +kernel) rfl
theorem tw_739 : Cond.methodLink RL 174 yX7_count ∈ z_TB := z_t4 (i := 19) (by decide +kernel) rfl
theorem tw_740 : Cond.instanceMethod yX7_count ∈ z_TB := z_t4 (i := 20) (by decide +kernel) rfl
theorem tw_741 : Cond.selects RX7 yX7_count yX7_count ∈ z_TB := z_t4 (i := 21) (by decide +kernel) rfl
theorem tw_742 : Cond.code yX7_count cX7_count 2 (some .int) ∈ z_TB := z_t4 (i := 22) (by decide +kernel) rfl
theorem tw_743 : Cond.classLink RL 10 RX8 ∈ z_TB := z_t4 (i := 23) (by decide +kernel) rfl
theorem tw_744 : Cond.instantiable RX8 39 ∈ z_TB := z_t4 (i := 24) (by decide +kernel) rfl
theorem tw_745 : Cond.methodLink RL 12 yX8_init ∈ z_TB := z_t4 (i := 25) (by decide +kernel) rfl
theorem tw_746 : Cond.instanceMethod yX8_init ∈ z_TB := z_t4 (i := 26) (by decide +kernel) rfl
theorem tw_747 : Cond.code yX8_init cX8_init 2 none ∈ z_TB := z_t4 (i := 27) (by decide +kernel) rfl
theorem tw_748 : Cond.methodLink RX8 1 objectInit ∈ z_TB := z_t4 (i := 28) (by decide +kernel) rfl
theorem tw_749 : Cond.fieldLink RX8 9 RX8 "price" "[I" ∈ z_TB := z_t4 (i := 29) (by decide +kernel) rfl
theorem tw_750 : Cond.fieldLink RX8 13 RX8 "sizes" "[I" ∈ z_TB := z_t4 (i := 30) (by decide +kernel) rfl
theorem tw_751 : Cond.fieldLink RX8 16 RX8 "sets" "[I" ∈ z_TB := z_t4 (i := 31) (by decide +kernel) rfl
theorem tw_752 : Cond.fieldLink RX8 19 RX8 "tallies" "[I" ∈ z_TB := z_t4 (i := 32) (by decide +kernel) rfl
theorem tw_753 : Cond.fieldLink RX8 22 RX8 "rules" "I" ∈ z_TB := z_t4 (i := 33) (by decide +kernel) rfl
theorem tw_754 : Cond.fieldLink RX8 26 RX8 "ruleHow" "[I" ∈ z_TB := z_t4 (i := 34) (by decide +kernel) rfl
theorem tw_755 : Cond.fieldLink RX8 29 RX8 "ruleA" "[I" ∈ z_TB := z_t4 (i := 35) (by decide +kernel) rfl
theorem tw_756 : Cond.fieldLink RX8 32 RX8 "ruleB" "[I" ∈ z_TB := z_t4 (i := 36) (by decide +kernel) rfl
theorem tw_757 : Cond.fieldLink RX8 35 RX8 "ruleC" "[I" ∈ z_TB := z_t4 (i := 37) (by decide +kernel) rfl
theorem tw_758 : Cond.fieldLink RX8 38 RX8 "rulePrice" "[I" ∈ z_TB := z_t4 (i := 38) (by decide +kernel) rfl
theorem tw_759 : Cond.fieldLink RX8 101 RX8 "acts" "I" ∈ z_TB := z_t4 (i := 39) (by decide +kernel) rfl
theorem tw_760 : Cond.fieldLink RX8 41 RX8 "actSort" "[I" ∈ z_TB := z_t4 (i := 40) (by decide +kernel) rfl
theorem tw_761 : Cond.fieldLink RX8 44 RX8 "actOf" "[I" ∈ z_TB := z_t4 (i := 41) (by decide +kernel) rfl
theorem tw_762 : Cond.fieldLink RX8 47 RX8 "actV" "[I" ∈ z_TB := z_t4 (i := 42) (by decide +kernel) rfl
theorem tw_763 : Cond.fieldLink RX8 50 RX8 "goes" "[Z" ∈ z_TB := z_t4 (i := 43) (by decide +kernel) rfl
theorem tw_764 : Cond.fieldLink RX8 54 RX8 "wanted" "[I" ∈ z_TB := z_t4 (i := 44) (by decide +kernel) rfl
theorem tw_765 : Cond.fieldLink RX8 150 RX8 "wantedMany" "I" ∈ z_TB := z_t4 (i := 45) (by decide +kernel) rfl
theorem tw_766 : Cond.fieldLink RX8 57 RX8 "least" "[I" ∈ z_TB := z_t4 (i := 46) (by decide +kernel) rfl
theorem tw_767 : Cond.fieldLink RX8 175 RX8 "leastMany" "I" ∈ z_TB := z_t4 (i := 47) (by decide +kernel) rfl
theorem tw_768 : Cond.fieldLink RX8 60 RX8 "row" "[I" ∈ z_TB := z_t4 (i := 48) (by decide +kernel) rfl
theorem tw_769 : Cond.fieldLink RX8 190 RX8 "nodes" "I" ∈ z_TB := z_t4 (i := 49) (by decide +kernel) rfl
theorem tw_770 : Cond.fieldLink RX8 208 RX8 "deepest" "I" ∈ z_TB := z_t4 (i := 50) (by decide +kernel) rfl
theorem tw_771 : Cond.fieldLink RX8 211 RX8 "barren" "I" ∈ z_TB := z_t4 (i := 51) (by decide +kernel) rfl
theorem tw_772 : Cond.fieldLink RX8 193 RX8 "soughtNode" "I" ∈ z_TB := z_t4 (i := 52) (by decide +kernel) rfl
theorem tw_773 : Cond.fieldLink RX8 196 RX8 "soughtPoint" "I" ∈ z_TB := z_t4 (i := 53) (by decide +kernel) rfl
theorem tw_774 : Cond.fieldLink RX8 199 RX8 "soughtMany" "I" ∈ z_TB := z_t4 (i := 54) (by decide +kernel) rfl
theorem tw_775 : Cond.fieldLink RX8 202 RX8 "soughtDepth" "I" ∈ z_TB := z_t4 (i := 55) (by decide +kernel) rfl
theorem tw_776 : Cond.fieldLink RX8 205 RX8 "soughtHad" "I" ∈ z_TB := z_t4 (i := 56) (by decide +kernel) rfl
theorem tw_777 : Cond.fieldLink RX8 63 RX8 "isCommon" "[Z" ∈ z_TB := z_t4 (i := 57) (by decide +kernel) rfl
theorem tw_778 : Cond.fieldLink RX8 66 RX8 "worths" "[I" ∈ z_TB := z_t4 (i := 58) (by decide +kernel) rfl
theorem tw_779 : Cond.fieldLink RX8 69 RX8 "sorts" "[I" ∈ z_TB := z_t4 (i := 59) (by decide +kernel) rfl
theorem tw_780 : Cond.fieldLink RX8 72 RX8 "long0" "[I" ∈ z_TB := z_t4 (i := 60) (by decide +kernel) rfl
theorem tw_781 : Cond.fieldLink RX8 75 RX8 "cells" "[J" ∈ z_TB := z_t4 (i := 61) (by decide +kernel) rfl
theorem tw_782 : Cond.fieldLink RX8 293 RX8 "isKept" "Z" ∈ z_TB := z_t4 (i := 62) (by decide +kernel) rfl
theorem tw_783 : Cond.fieldLink RX8 79 RX8 "keptPrice" "[I" ∈ z_TB := z_t4 (i := 63) (by decide +kernel) rfl
theorem tw_784 : Cond.fieldLink RX8 82 RX8 "keptSizes" "[I" ∈ z_TB := z_t4 (i := 64) (by decide +kernel) rfl
theorem tw_785 : Cond.fieldLink RX8 85 RX8 "keptSets" "[I" ∈ z_TB := z_t4 (i := 65) (by decide +kernel) rfl
theorem tw_786 : Cond.fieldLink RX8 88 RX8 "keptTallies" "[I" ∈ z_TB := z_t4 (i := 66) (by decide +kernel) rfl
theorem tw_787 : Cond.fieldLink RX8 301 RX8 "keptRules" "I" ∈ z_TB := z_t4 (i := 67) (by decide +kernel) rfl
theorem tw_867 : Cond.arrayClass .boolean ∈ z_TB := z_t4 (i := 147) (by decide +kernel) rfl
theorem tw_868 : Cond.methodLink RL 17 yX8_price ∈ z_TB := z_t4 (i := 148) (by decide +kernel) rfl
theorem tw_869 : Cond.instanceMethod yX8_price ∈ z_TB := z_t4 (i := 149) (by decide +kernel) rfl
theorem tw_870 : Cond.selects RX8 yX8_price yX8_price ∈ z_TB := z_t4 (i := 150) (by decide +kernel) rfl
theorem tw_871 : Cond.code yX8_price cX8_price 4 (some .int) ∈ z_TB := z_t4 (i := 151) (by decide +kernel) rfl
theorem tw_872 : Cond.methodLink RX8 104 yX8_isPoint ∈ z_TB := z_t4 (i := 152) (by decide +kernel) rfl
theorem tw_873 : Cond.static yX8_isPoint ∈ z_TB := z_t4 (i := 153) (by decide +kernel) rfl
theorem tw_874 : Cond.code yX8_isPoint cX8_isPoint 1 (some .boolean) ∈ z_TB := z_t4 (i := 154) (by decide +kernel) rfl
theorem tw_875 : Cond.constantLong RX8 91 (11) ∈ z_TB := z_t4 (i := 155) (by decide +kernel) rfl
theorem tw_876 : Cond.methodLink RX8 93 yX8_in ∈ z_TB := z_t4 (i := 156) (by decide +kernel) rfl
theorem tw_877 : Cond.static yX8_in ∈ z_TB := z_t4 (i := 157) (by decide +kernel) rfl
theorem tw_878 : Cond.code yX8_in cX8_in 6 (some .boolean) ∈ z_TB := z_t4 (i := 158) (by decide +kernel) rfl
theorem tw_879 : Cond.constantLong RX8 108 (99) ∈ z_TB := z_t4 (i := 159) (by decide +kernel) rfl
theorem tw_880 : Cond.methodLink RX8 110 yX8_remembers ∈ z_TB := z_t4 (i := 160) (by decide +kernel) rfl
theorem tw_882 : Cond.instanceMethod yX8_remembers ∈ z_TB := z_t4 (i := 162) (by decide +kernel) rfl
theorem tw_883 : Cond.code yX8_remembers cX8_remembers 5 none ∈ z_TB := z_t4 (i := 163) (by decide +kernel) rfl
theorem tw_884 : Cond.methodLink RL 22 yX8_priceOf ∈ z_TB := z_t4 (i := 164) (by decide +kernel) rfl
theorem tw_885 : Cond.instanceMethod yX8_priceOf ∈ z_TB := z_t4 (i := 165) (by decide +kernel) rfl
theorem tw_886 : Cond.selects RX8 yX8_priceOf yX8_priceOf ∈ z_TB := z_t4 (i := 166) (by decide +kernel) rfl
theorem tw_887 : Cond.code yX8_priceOf cX8_priceOf 2 (some .int) ∈ z_TB := z_t4 (i := 167) (by decide +kernel) rfl
theorem tw_888 : Cond.methodLink RL 26 yX8_tell ∈ z_TB := z_t4 (i := 168) (by decide +kernel) rfl
theorem tw_889 : Cond.instanceMethod yX8_tell ∈ z_TB := z_t4 (i := 169) (by decide +kernel) rfl
theorem tw_890 : Cond.selects RX8 yX8_tell yX8_tell ∈ z_TB := z_t4 (i := 170) (by decide +kernel) rfl
theorem tw_891 : Cond.code yX8_tell cX8_tell 5 (some .int) ∈ z_TB := z_t4 (i := 171) (by decide +kernel) rfl
theorem tw_892 : Cond.methodLink RX8 125 yX8_isFamily ∈ z_TB := z_t4 (i := 172) (by decide +kernel) rfl
theorem tw_893 : Cond.static yX8_isFamily ∈ z_TB := z_t4 (i := 173) (by decide +kernel) rfl
theorem tw_894 : Cond.code yX8_isFamily cX8_isFamily 1 (some .boolean) ∈ z_TB := z_t4 (i := 174) (by decide +kernel) rfl
theorem tw_895 : Cond.constantLong RX8 99 (3) ∈ z_TB := z_t4 (i := 175) (by decide +kernel) rfl
theorem tw_896 : Cond.methodLink RX8 128 yX8_isSet ∈ z_TB := z_t4 (i := 176) (by decide +kernel) rfl
theorem tw_897 : Cond.static yX8_isSet ∈ z_TB := z_t4 (i := 177) (by decide +kernel) rfl
theorem tw_898 : Cond.code yX8_isSet cX8_isSet 1 (some .boolean) ∈ z_TB := z_t4 (i := 178) (by decide +kernel) rfl
theorem tw_899 : Cond.constantLong RX8 97 (4095) ∈ z_TB := z_t4 (i := 179) (by decide +kernel) rfl
theorem tw_900 : Cond.methodLink RX8 131 yX8_tallyOf ∈ z_TB := z_t4 (i := 180) (by decide +kernel) rfl
theorem tw_902 : Cond.instanceMethod yX8_tallyOf ∈ z_TB := z_t4 (i := 182) (by decide +kernel) rfl
theorem tw_903 : Cond.code yX8_tallyOf cX8_tallyOf 4 (some .int) ∈ z_TB := z_t4 (i := 183) (by decide +kernel) rfl
theorem tw_904 : Cond.methodLink RX8 118 yX8_placeOf ∈ z_TB := z_t4 (i := 184) (by decide +kernel) rfl
theorem tw_906 : Cond.instanceMethod yX8_placeOf ∈ z_TB := z_t4 (i := 186) (by decide +kernel) rfl
theorem tw_907 : Cond.code yX8_placeOf cX8_placeOf 4 (some .int) ∈ z_TB := z_t4 (i := 187) (by decide +kernel) rfl
theorem tw_908 : Cond.methodLink RX8 114 yX8_setOf ∈ z_TB := z_t4 (i := 188) (by decide +kernel) rfl
theorem tw_910 : Cond.instanceMethod yX8_setOf ∈ z_TB := z_t4 (i := 190) (by decide +kernel) rfl
theorem tw_911 : Cond.code yX8_setOf cX8_setOf 3 (some .int) ∈ z_TB := z_t4 (i := 191) (by decide +kernel) rfl
theorem tw_912 : Cond.methodLink RX8 134 yX8_tells ∈ z_TB := z_t4 (i := 192) (by decide +kernel) rfl
theorem tw_914 : Cond.instanceMethod yX8_tells ∈ z_TB := z_t4 (i := 194) (by decide +kernel) rfl
theorem tw_915 : Cond.code yX8_tells cX8_tells 4 (some .int) ∈ z_TB := z_t4 (i := 195) (by decide +kernel) rfl
theorem tw_916 : Cond.methodLink RL 30 yX8_take ∈ z_TB := z_t4 (i := 196) (by decide +kernel) rfl
theorem tw_917 : Cond.instanceMethod yX8_take ∈ z_TB := z_t4 (i := 197) (by decide +kernel) rfl
theorem tw_918 : Cond.selects RX8 yX8_take yX8_take ∈ z_TB := z_t4 (i := 198) (by decide +kernel) rfl
theorem tw_919 : Cond.code yX8_take cX8_take 3 (some .int) ∈ z_TB := z_t4 (i := 199) (by decide +kernel) rfl
theorem tw_920 : Cond.methodLink RX8 137 yX8_takes ∈ z_TB := z_t4 (i := 200) (by decide +kernel) rfl
theorem tw_922 : Cond.instanceMethod yX8_takes ∈ z_TB := z_t4 (i := 202) (by decide +kernel) rfl
theorem tw_923 : Cond.code yX8_takes cX8_takes 5 (some .int) ∈ z_TB := z_t4 (i := 203) (by decide +kernel) rfl
theorem tw_924 : Cond.methodLink RX8 121 yX8_drops ∈ z_TB := z_t4 (i := 204) (by decide +kernel) rfl
theorem tw_926 : Cond.instanceMethod yX8_drops ∈ z_TB := z_t4 (i := 206) (by decide +kernel) rfl
theorem tw_927 : Cond.code yX8_drops cX8_drops 4 none ∈ z_TB := z_t4 (i := 207) (by decide +kernel) rfl
theorem tw_928 : Cond.methodLink RL 34 yX8_tally ∈ z_TB := z_t4 (i := 208) (by decide +kernel) rfl
theorem tw_929 : Cond.instanceMethod yX8_tally ∈ z_TB := z_t4 (i := 209) (by decide +kernel) rfl
theorem tw_930 : Cond.selects RX8 yX8_tally yX8_tally ∈ z_TB := z_t4 (i := 210) (by decide +kernel) rfl
theorem tw_931 : Cond.code yX8_tally cX8_tally 3 (some .int) ∈ z_TB := z_t4 (i := 211) (by decide +kernel) rfl
theorem tw_932 : Cond.methodLink RL 38 yX8_at ∈ z_TB := z_t4 (i := 212) (by decide +kernel) rfl
theorem tw_933 : Cond.instanceMethod yX8_at ∈ z_TB := z_t4 (i := 213) (by decide +kernel) rfl
theorem tw_934 : Cond.selects RX8 yX8_at yX8_at ∈ z_TB := z_t4 (i := 214) (by decide +kernel) rfl
theorem tw_935 : Cond.code yX8_at cX8_at 3 (some .int) ∈ z_TB := z_t4 (i := 215) (by decide +kernel) rfl
theorem tw_936 : Cond.methodLink RL 42 yX8_size ∈ z_TB := z_t4 (i := 216) (by decide +kernel) rfl
theorem tw_937 : Cond.instanceMethod yX8_size ∈ z_TB := z_t4 (i := 217) (by decide +kernel) rfl
theorem tw_938 : Cond.selects RX8 yX8_size yX8_size ∈ z_TB := z_t4 (i := 218) (by decide +kernel) rfl
theorem tw_939 : Cond.code yX8_size cX8_size 2 (some .int) ∈ z_TB := z_t4 (i := 219) (by decide +kernel) rfl
theorem tw_940 : Cond.methodLink RL 46 yX8_wipe ∈ z_TB := z_t4 (i := 220) (by decide +kernel) rfl
theorem tw_941 : Cond.instanceMethod yX8_wipe ∈ z_TB := z_t4 (i := 221) (by decide +kernel) rfl
theorem tw_942 : Cond.selects RX8 yX8_wipe yX8_wipe ∈ z_TB := z_t4 (i := 222) (by decide +kernel) rfl
theorem tw_943 : Cond.code yX8_wipe cX8_wipe 3 (some .int) ∈ z_TB := z_t4 (i := 223) (by decide +kernel) rfl
theorem tw_944 : Cond.methodLink RL 50 yX8_copy ∈ z_TB := z_t4 (i := 224) (by decide +kernel) rfl
theorem tw_945 : Cond.instanceMethod yX8_copy ∈ z_TB := z_t4 (i := 225) (by decide +kernel) rfl
theorem tw_946 : Cond.selects RX8 yX8_copy yX8_copy ∈ z_TB := z_t4 (i := 226) (by decide +kernel) rfl
theorem tw_947 : Cond.code yX8_copy cX8_copy 4 (some .int) ∈ z_TB := z_t4 (i := 227) (by decide +kernel) rfl
theorem tw_948 : Cond.methodLink RL 55 yX8_undo ∈ z_TB := z_t4 (i := 228) (by decide +kernel) rfl
theorem tw_949 : Cond.instanceMethod yX8_undo ∈ z_TB := z_t4 (i := 229) (by decide +kernel) rfl
theorem tw_950 : Cond.selects RX8 yX8_undo yX8_undo ∈ z_TB := z_t4 (i := 230) (by decide +kernel) rfl
theorem tw_951 : Cond.code yX8_undo cX8_undo 3 (some .int) ∈ z_TB := z_t4 (i := 231) (by decide +kernel) rfl
theorem tw_952 : Cond.methodLink RL 59 yX8_often ∈ z_TB := z_t4 (i := 232) (by decide +kernel) rfl
theorem tw_953 : Cond.instanceMethod yX8_often ∈ z_TB := z_t4 (i := 233) (by decide +kernel) rfl
theorem tw_954 : Cond.selects RX8 yX8_often yX8_often ∈ z_TB := z_t4 (i := 234) (by decide +kernel) rfl
theorem tw_955 : Cond.code yX8_often cX8_often 3 (some .int) ∈ z_TB := z_t4 (i := 235) (by decide +kernel) rfl
theorem tw_956 : Cond.methodLink RX8 140 yX8_oftenIn ∈ z_TB := z_t4 (i := 236) (by decide +kernel) rfl
theorem tw_958 : Cond.instanceMethod yX8_oftenIn ∈ z_TB := z_t4 (i := 238) (by decide +kernel) rfl
theorem tw_959 : Cond.code yX8_oftenIn cX8_oftenIn 5 (some .int) ∈ z_TB := z_t4 (i := 239) (by decide +kernel) rfl
theorem tw_960 : Cond.methodLink RL 63 yX8_top ∈ z_TB := z_t5 (i := 0) (by decide +kernel) rfl
theorem tw_961 : Cond.instanceMethod yX8_top ∈ z_TB := z_t5 (i := 1) (by decide +kernel) rfl
theorem tw_962 : Cond.selects RX8 yX8_top yX8_top ∈ z_TB := z_t5 (i := 2) (by decide +kernel) rfl
theorem tw_963 : Cond.code yX8_top cX8_top 6 (some .int) ∈ z_TB := z_t5 (i := 3) (by decide +kernel) rfl
theorem tw_964 : Cond.methodLink RL 67 yX8_isSimple ∈ z_TB := z_t5 (i := 4) (by decide +kernel) rfl
theorem tw_965 : Cond.instanceMethod yX8_isSimple ∈ z_TB := z_t5 (i := 5) (by decide +kernel) rfl
theorem tw_966 : Cond.selects RX8 yX8_isSimple yX8_isSimple ∈ z_TB := z_t5 (i := 6) (by decide +kernel) rfl
theorem tw_967 : Cond.code yX8_isSimple cX8_isSimple 3 (some .int) ∈ z_TB := z_t5 (i := 7) (by decide +kernel) rfl
theorem tw_968 : Cond.methodLink RX8 147 yX8_hasPart ∈ z_TB := z_t5 (i := 8) (by decide +kernel) rfl
theorem tw_970 : Cond.instanceMethod yX8_hasPart ∈ z_TB := z_t5 (i := 10) (by decide +kernel) rfl
theorem tw_971 : Cond.code yX8_hasPart cX8_hasPart 4 (some .boolean) ∈ z_TB := z_t5 (i := 11) (by decide +kernel) rfl
theorem tw_972 : Cond.methodLink RX8 143 yX8_isPart ∈ z_TB := z_t5 (i := 12) (by decide +kernel) rfl
theorem tw_973 : Cond.static yX8_isPart ∈ z_TB := z_t5 (i := 13) (by decide +kernel) rfl
theorem tw_974 : Cond.code yX8_isPart cX8_isPart 2 (some .boolean) ∈ z_TB := z_t5 (i := 14) (by decide +kernel) rfl
theorem tw_975 : Cond.methodLink RL 71 yX8_lean ∈ z_TB := z_t5 (i := 15) (by decide +kernel) rfl
theorem tw_976 : Cond.instanceMethod yX8_lean ∈ z_TB := z_t5 (i := 16) (by decide +kernel) rfl
theorem tw_977 : Cond.selects RX8 yX8_lean yX8_lean ∈ z_TB := z_t5 (i := 17) (by decide +kernel) rfl
theorem tw_978 : Cond.code yX8_lean cX8_lean 4 (some .int) ∈ z_TB := z_t5 (i := 18) (by decide +kernel) rfl
theorem tw_979 : Cond.methodLink RL 76 yX8_test ∈ z_TB := z_t5 (i := 19) (by decide +kernel) rfl
theorem tw_980 : Cond.instanceMethod yX8_test ∈ z_TB := z_t5 (i := 20) (by decide +kernel) rfl
theorem tw_981 : Cond.selects RX8 yX8_test yX8_test ∈ z_TB := z_t5 (i := 21) (by decide +kernel) rfl
theorem tw_982 : Cond.code yX8_test cX8_test 4 (some .int) ∈ z_TB := z_t5 (i := 22) (by decide +kernel) rfl
theorem tw_983 : Cond.methodLink RX8 166 yX8_isTest ∈ z_TB := z_t5 (i := 23) (by decide +kernel) rfl
theorem tw_984 : Cond.static yX8_isTest ∈ z_TB := z_t5 (i := 24) (by decide +kernel) rfl
theorem tw_985 : Cond.code yX8_isTest cX8_isTest 1 (some .boolean) ∈ z_TB := z_t5 (i := 25) (by decide +kernel) rfl
theorem tw_986 : Cond.constantLong RX8 164 (5) ∈ z_TB := z_t5 (i := 26) (by decide +kernel) rfl
theorem tw_987 : Cond.methodLink RX8 169 yX8_does ∈ z_TB := z_t5 (i := 27) (by decide +kernel) rfl
theorem tw_989 : Cond.instanceMethod yX8_does ∈ z_TB := z_t5 (i := 29) (by decide +kernel) rfl
theorem tw_990 : Cond.code yX8_does cX8_does 7 (some .boolean) ∈ z_TB := z_t5 (i := 30) (by decide +kernel) rfl
theorem tw_991 : Cond.methodLink RX8 153 yX8_wants ∈ z_TB := z_t5 (i := 31) (by decide +kernel) rfl
theorem tw_993 : Cond.instanceMethod yX8_wants ∈ z_TB := z_t5 (i := 33) (by decide +kernel) rfl
theorem tw_994 : Cond.code yX8_wants cX8_wants 3 none ∈ z_TB := z_t5 (i := 34) (by decide +kernel) rfl
theorem tw_995 : Cond.methodLink RX8 157 yX8_hits ∈ z_TB := z_t5 (i := 35) (by decide +kernel) rfl
theorem tw_997 : Cond.instanceMethod yX8_hits ∈ z_TB := z_t5 (i := 37) (by decide +kernel) rfl
theorem tw_998 : Cond.code yX8_hits cX8_hits 5 (some .int) ∈ z_TB := z_t5 (i := 38) (by decide +kernel) rfl
theorem tw_999 : Cond.methodLink RX8 161 yX8_many ∈ z_TB := z_t5 (i := 39) (by decide +kernel) rfl
theorem tw_1000 : Cond.static yX8_many ∈ z_TB := z_t5 (i := 40) (by decide +kernel) rfl
theorem tw_1001 : Cond.code yX8_many cX8_many 3 (some .int) ∈ z_TB := z_t5 (i := 41) (by decide +kernel) rfl
theorem tw_1002 : Cond.methodLink RL 81 yX8_counted ∈ z_TB := z_t5 (i := 42) (by decide +kernel) rfl
theorem tw_1003 : Cond.instanceMethod yX8_counted ∈ z_TB := z_t5 (i := 43) (by decide +kernel) rfl
theorem tw_1004 : Cond.selects RX8 yX8_counted yX8_counted ∈ z_TB := z_t5 (i := 44) (by decide +kernel) rfl
theorem tw_1005 : Cond.code yX8_counted cX8_counted 7 (some .int) ∈ z_TB := z_t5 (i := 45) (by decide +kernel) rfl
theorem tw_1006 : Cond.constantLong RX8 173 (12) ∈ z_TB := z_t5 (i := 46) (by decide +kernel) rfl
theorem tw_1007 : Cond.methodLink RL 85 yX8_dual ∈ z_TB := z_t5 (i := 47) (by decide +kernel) rfl
theorem tw_1008 : Cond.instanceMethod yX8_dual ∈ z_TB := z_t5 (i := 48) (by decide +kernel) rfl
theorem tw_1009 : Cond.selects RX8 yX8_dual yX8_dual ∈ z_TB := z_t5 (i := 49) (by decide +kernel) rfl
theorem tw_1010 : Cond.code yX8_dual cX8_dual 3 (some .int) ∈ z_TB := z_t5 (i := 50) (by decide +kernel) rfl
theorem tw_1011 : Cond.methodLink RX8 181 yX8_findsDual ∈ z_TB := z_t5 (i := 51) (by decide +kernel) rfl
theorem tw_1013 : Cond.instanceMethod yX8_findsDual ∈ z_TB := z_t5 (i := 53) (by decide +kernel) rfl
theorem tw_1014 : Cond.code yX8_findsDual cX8_findsDual 2 none ∈ z_TB := z_t5 (i := 54) (by decide +kernel) rfl
theorem tw_1015 : Cond.methodLink RX8 178 yX8_findsLeast ∈ z_TB := z_t5 (i := 55) (by decide +kernel) rfl
theorem tw_1017 : Cond.instanceMethod yX8_findsLeast ∈ z_TB := z_t5 (i := 57) (by decide +kernel) rfl
theorem tw_1018 : Cond.code yX8_findsLeast cX8_findsLeast 2 none ∈ z_TB := z_t5 (i := 58) (by decide +kernel) rfl
theorem tw_1019 : Cond.methodLink RX8 184 yX8_leastAt ∈ z_TB := z_t5 (i := 59) (by decide +kernel) rfl
theorem tw_1021 : Cond.instanceMethod yX8_leastAt ∈ z_TB := z_t5 (i := 61) (by decide +kernel) rfl
theorem tw_1022 : Cond.code yX8_leastAt cX8_leastAt 2 (some .int) ∈ z_TB := z_t5 (i := 62) (by decide +kernel) rfl
theorem tw_1023 : Cond.methodLink RL 89 yX8_into ∈ z_TB := z_t5 (i := 63) (by decide +kernel) rfl
theorem tw_1024 : Cond.instanceMethod yX8_into ∈ z_TB := z_t5 (i := 64) (by decide +kernel) rfl
theorem tw_1025 : Cond.selects RX8 yX8_into yX8_into ∈ z_TB := z_t5 (i := 65) (by decide +kernel) rfl
theorem tw_1026 : Cond.code yX8_into cX8_into 4 (some .int) ∈ z_TB := z_t5 (i := 66) (by decide +kernel) rfl
theorem tw_1027 : Cond.methodLink RL 93 yX8_verdict ∈ z_TB := z_t5 (i := 67) (by decide +kernel) rfl
theorem tw_1028 : Cond.instanceMethod yX8_verdict ∈ z_TB := z_t5 (i := 68) (by decide +kernel) rfl
theorem tw_1029 : Cond.selects RX8 yX8_verdict yX8_verdict ∈ z_TB := z_t5 (i := 69) (by decide +kernel) rfl
theorem tw_1030 : Cond.code yX8_verdict cX8_verdict 6 (some .int) ∈ z_TB := z_t5 (i := 70) (by decide +kernel) rfl
theorem tw_1031 : Cond.methodLink RL 97 yX8_tree ∈ z_TB := z_t5 (i := 71) (by decide +kernel) rfl
theorem tw_1032 : Cond.instanceMethod yX8_tree ∈ z_TB := z_t5 (i := 72) (by decide +kernel) rfl
theorem tw_1033 : Cond.selects RX8 yX8_tree yX8_tree ∈ z_TB := z_t5 (i := 73) (by decide +kernel) rfl
theorem tw_1034 : Cond.code yX8_tree cX8_tree 3 (some .int) ∈ z_TB := z_t5 (i := 74) (by decide +kernel) rfl
theorem tw_1035 : Cond.constantLong RX8 223 (2) ∈ z_TB := z_t5 (i := 75) (by decide +kernel) rfl
theorem tw_1036 : Cond.methodLink RX8 225 yX8_findsTree ∈ z_TB := z_t5 (i := 76) (by decide +kernel) rfl
theorem tw_1038 : Cond.instanceMethod yX8_findsTree ∈ z_TB := z_t5 (i := 78) (by decide +kernel) rfl
theorem tw_1039 : Cond.code yX8_findsTree cX8_findsTree 4 none ∈ z_TB := z_t5 (i := 79) (by decide +kernel) rfl
theorem tw_1040 : Cond.methodLink RX8 220 yX8_thins ∈ z_TB := z_t5 (i := 80) (by decide +kernel) rfl
theorem tw_1042 : Cond.instanceMethod yX8_thins ∈ z_TB := z_t5 (i := 82) (by decide +kernel) rfl
theorem tw_1043 : Cond.code yX8_thins cX8_thins 9 (some .int) ∈ z_TB := z_t5 (i := 83) (by decide +kernel) rfl
theorem tw_1044 : Cond.methodLink RX8 217 yX8_grows ∈ z_TB := z_t5 (i := 84) (by decide +kernel) rfl
theorem tw_1046 : Cond.instanceMethod yX8_grows ∈ z_TB := z_t5 (i := 86) (by decide +kernel) rfl
theorem tw_1047 : Cond.code yX8_grows cX8_grows 9 none ∈ z_TB := z_t5 (i := 87) (by decide +kernel) rfl
theorem tw_1048 : Cond.methodLink RX8 187 yX8_topOf ∈ z_TB := z_t5 (i := 88) (by decide +kernel) rfl
theorem tw_1050 : Cond.instanceMethod yX8_topOf ∈ z_TB := z_t5 (i := 90) (by decide +kernel) rfl
theorem tw_1051 : Cond.code yX8_topOf cX8_topOf 8 (some .int) ∈ z_TB := z_t5 (i := 91) (by decide +kernel) rfl
theorem tw_1052 : Cond.methodLink RX8 214 yX8_has ∈ z_TB := z_t5 (i := 92) (by decide +kernel) rfl
theorem tw_1053 : Cond.static yX8_has ∈ z_TB := z_t5 (i := 93) (by decide +kernel) rfl
theorem tw_1054 : Cond.code yX8_has cX8_has 2 (some .boolean) ∈ z_TB := z_t5 (i := 94) (by decide +kernel) rfl
theorem tw_1055 : Cond.methodLink RL 101 yX8_node ∈ z_TB := z_t5 (i := 95) (by decide +kernel) rfl
theorem tw_1056 : Cond.instanceMethod yX8_node ∈ z_TB := z_t5 (i := 96) (by decide +kernel) rfl
theorem tw_1057 : Cond.selects RX8 yX8_node yX8_node ∈ z_TB := z_t5 (i := 97) (by decide +kernel) rfl
theorem tw_1058 : Cond.code yX8_node cX8_node 4 (some .int) ∈ z_TB := z_t5 (i := 98) (by decide +kernel) rfl
theorem tw_1059 : Cond.methodLink RL 105 yX8_keys ∈ z_TB := z_t5 (i := 99) (by decide +kernel) rfl
theorem tw_1060 : Cond.instanceMethod yX8_keys ∈ z_TB := z_t5 (i := 100) (by decide +kernel) rfl
theorem tw_1061 : Cond.selects RX8 yX8_keys yX8_keys ∈ z_TB := z_t5 (i := 101) (by decide +kernel) rfl
theorem tw_1062 : Cond.code yX8_keys cX8_keys 5 (some .int) ∈ z_TB := z_t5 (i := 102) (by decide +kernel) rfl
theorem tw_1063 : Cond.methodLink RL 109 yX8_support ∈ z_TB := z_t5 (i := 103) (by decide +kernel) rfl
theorem tw_1064 : Cond.instanceMethod yX8_support ∈ z_TB := z_t5 (i := 104) (by decide +kernel) rfl
theorem tw_1065 : Cond.selects RX8 yX8_support yX8_support ∈ z_TB := z_t5 (i := 105) (by decide +kernel) rfl
theorem tw_1066 : Cond.code yX8_support cX8_support 3 (some .int) ∈ z_TB := z_t5 (i := 106) (by decide +kernel) rfl
theorem tw_1067 : Cond.methodLink RX8 228 yX8_supportOf ∈ z_TB := z_t5 (i := 107) (by decide +kernel) rfl
theorem tw_1069 : Cond.instanceMethod yX8_supportOf ∈ z_TB := z_t5 (i := 109) (by decide +kernel) rfl
theorem tw_1070 : Cond.code yX8_supportOf cX8_supportOf 5 (some .int) ∈ z_TB := z_t5 (i := 110) (by decide +kernel) rfl
theorem tw_1071 : Cond.methodLink RL 113 yX8_border ∈ z_TB := z_t5 (i := 111) (by decide +kernel) rfl
theorem tw_1072 : Cond.instanceMethod yX8_border ∈ z_TB := z_t5 (i := 112) (by decide +kernel) rfl
theorem tw_1073 : Cond.selects RX8 yX8_border yX8_border ∈ z_TB := z_t5 (i := 113) (by decide +kernel) rfl
theorem tw_1074 : Cond.code yX8_border cX8_border 6 (some .int) ∈ z_TB := z_t5 (i := 114) (by decide +kernel) rfl
theorem tw_1075 : Cond.constantLong RX8 231 (4000) ∈ z_TB := z_t5 (i := 115) (by decide +kernel) rfl
theorem tw_1076 : Cond.methodLink RX8 233 yX8_isBorder ∈ z_TB := z_t5 (i := 116) (by decide +kernel) rfl
theorem tw_1078 : Cond.instanceMethod yX8_isBorder ∈ z_TB := z_t5 (i := 118) (by decide +kernel) rfl
theorem tw_1079 : Cond.code yX8_isBorder cX8_isBorder 5 (some .boolean) ∈ z_TB := z_t5 (i := 119) (by decide +kernel) rfl
theorem tw_1080 : Cond.methodLink RL 117 yX8_make ∈ z_TB := z_t5 (i := 120) (by decide +kernel) rfl
theorem tw_1081 : Cond.instanceMethod yX8_make ∈ z_TB := z_t5 (i := 121) (by decide +kernel) rfl
theorem tw_1082 : Cond.selects RX8 yX8_make yX8_make ∈ z_TB := z_t5 (i := 122) (by decide +kernel) rfl
theorem tw_1083 : Cond.code yX8_make cX8_make 7 (some .int) ∈ z_TB := z_t5 (i := 123) (by decide +kernel) rfl
theorem tw_1084 : Cond.methodLink RX8 238 yX8_canMake ∈ z_TB := z_t5 (i := 124) (by decide +kernel) rfl
theorem tw_1085 : Cond.static yX8_canMake ∈ z_TB := z_t5 (i := 125) (by decide +kernel) rfl
theorem tw_1086 : Cond.code yX8_canMake cX8_canMake 3 (some .boolean) ∈ z_TB := z_t5 (i := 126) (by decide +kernel) rfl
theorem tw_1087 : Cond.constantLong RX8 236 (6) ∈ z_TB := z_t5 (i := 127) (by decide +kernel) rfl
theorem tw_1088 : Cond.methodLink RX8 241 yX8_run ∈ z_TB := z_t5 (i := 128) (by decide +kernel) rfl
theorem tw_1089 : Cond.static yX8_run ∈ z_TB := z_t5 (i := 129) (by decide +kernel) rfl
theorem tw_1090 : Cond.code yX8_run cX8_run 5 (some .int) ∈ z_TB := z_t5 (i := 130) (by decide +kernel) rfl
theorem tw_1091 : Cond.methodLink RX8 245 yX8_rest ∈ z_TB := z_t5 (i := 131) (by decide +kernel) rfl
theorem tw_1092 : Cond.static yX8_rest ∈ z_TB := z_t5 (i := 132) (by decide +kernel) rfl
theorem tw_1093 : Cond.code yX8_rest cX8_rest 4 (some .int) ∈ z_TB := z_t5 (i := 133) (by decide +kernel) rfl
theorem tw_1094 : Cond.methodLink RL 121 yX8_rule ∈ z_TB := z_t5 (i := 134) (by decide +kernel) rfl
theorem tw_1095 : Cond.instanceMethod yX8_rule ∈ z_TB := z_t5 (i := 135) (by decide +kernel) rfl
theorem tw_1096 : Cond.selects RX8 yX8_rule yX8_rule ∈ z_TB := z_t5 (i := 136) (by decide +kernel) rfl
theorem tw_1097 : Cond.code yX8_rule cX8_rule 6 (some .int) ∈ z_TB := z_t5 (i := 137) (by decide +kernel) rfl
theorem tw_1098 : Cond.constantLong RX8 254 (8) ∈ z_TB := z_t5 (i := 138) (by decide +kernel) rfl
theorem tw_1099 : Cond.methodLink RX8 256 yX8_isOfA ∈ z_TB := z_t5 (i := 139) (by decide +kernel) rfl
theorem tw_1100 : Cond.static yX8_isOfA ∈ z_TB := z_t5 (i := 140) (by decide +kernel) rfl
theorem tw_1101 : Cond.code yX8_isOfA cX8_isOfA 1 (some .boolean) ∈ z_TB := z_t5 (i := 141) (by decide +kernel) rfl
theorem tw_1102 : Cond.methodLink RX8 259 yX8_isRule ∈ z_TB := z_t5 (i := 142) (by decide +kernel) rfl
theorem tw_1104 : Cond.instanceMethod yX8_isRule ∈ z_TB := z_t5 (i := 144) (by decide +kernel) rfl
theorem tw_1105 : Cond.code yX8_isRule cX8_isRule 2 (some .boolean) ∈ z_TB := z_t5 (i := 145) (by decide +kernel) rfl
theorem tw_1106 : Cond.methodLink RX8 262 yX8_isC ∈ z_TB := z_t5 (i := 146) (by decide +kernel) rfl
theorem tw_1107 : Cond.static yX8_isC ∈ z_TB := z_t5 (i := 147) (by decide +kernel) rfl
theorem tw_1108 : Cond.code yX8_isC cX8_isC 2 (some .boolean) ∈ z_TB := z_t5 (i := 148) (by decide +kernel) rfl
theorem tw_1109 : Cond.constantLong RX8 248 (-9) ∈ z_TB := z_t5 (i := 149) (by decide +kernel) rfl
theorem tw_1110 : Cond.constantLong RX8 250 (9) ∈ z_TB := z_t5 (i := 150) (by decide +kernel) rfl
theorem tw_1111 : Cond.constantLong RX8 252 (-11) ∈ z_TB := z_t5 (i := 151) (by decide +kernel) rfl
theorem tw_1112 : Cond.methodLink RL 125 yX8_worth ∈ z_TB := z_t5 (i := 152) (by decide +kernel) rfl
theorem tw_1113 : Cond.instanceMethod yX8_worth ∈ z_TB := z_t5 (i := 153) (by decide +kernel) rfl
theorem tw_1114 : Cond.selects RX8 yX8_worth yX8_worth ∈ z_TB := z_t5 (i := 154) (by decide +kernel) rfl
theorem tw_1115 : Cond.code yX8_worth cX8_worth 3 (some .int) ∈ z_TB := z_t5 (i := 155) (by decide +kernel) rfl
theorem tw_1116 : Cond.methodLink RX8 268 yX8_worthOf ∈ z_TB := z_t5 (i := 156) (by decide +kernel) rfl
theorem tw_1118 : Cond.instanceMethod yX8_worthOf ∈ z_TB := z_t5 (i := 158) (by decide +kernel) rfl
theorem tw_1119 : Cond.code yX8_worthOf cX8_worthOf 9 (some .int) ∈ z_TB := z_t5 (i := 159) (by decide +kernel) rfl
theorem tw_1120 : Cond.methodLink RX8 265 yX8_first ∈ z_TB := z_t5 (i := 160) (by decide +kernel) rfl
theorem tw_1122 : Cond.instanceMethod yX8_first ∈ z_TB := z_t5 (i := 162) (by decide +kernel) rfl
theorem tw_1123 : Cond.code yX8_first cX8_first 6 (some .int) ∈ z_TB := z_t5 (i := 163) (by decide +kernel) rfl
theorem tw_1124 : Cond.methodLink RX8 271 yX8_metBy ∈ z_TB := z_t5 (i := 164) (by decide +kernel) rfl
theorem tw_1126 : Cond.instanceMethod yX8_metBy ∈ z_TB := z_t5 (i := 166) (by decide +kernel) rfl
theorem tw_1127 : Cond.code yX8_metBy cX8_metBy 5 (some .int) ∈ z_TB := z_t5 (i := 167) (by decide +kernel) rfl
theorem tw_1128 : Cond.methodLink RL 129 yX8_best ∈ z_TB := z_t5 (i := 168) (by decide +kernel) rfl
theorem tw_1129 : Cond.instanceMethod yX8_best ∈ z_TB := z_t5 (i := 169) (by decide +kernel) rfl
theorem tw_1130 : Cond.selects RX8 yX8_best yX8_best ∈ z_TB := z_t5 (i := 170) (by decide +kernel) rfl
theorem tw_1131 : Cond.code yX8_best cX8_best 8 (some .int) ∈ z_TB := z_t5 (i := 171) (by decide +kernel) rfl
theorem tw_1132 : Cond.methodLink RL 133 yX8_ranked ∈ z_TB := z_t5 (i := 172) (by decide +kernel) rfl
theorem tw_1133 : Cond.instanceMethod yX8_ranked ∈ z_TB := z_t5 (i := 173) (by decide +kernel) rfl
theorem tw_1134 : Cond.selects RX8 yX8_ranked yX8_ranked ∈ z_TB := z_t5 (i := 174) (by decide +kernel) rfl
theorem tw_1135 : Cond.code yX8_ranked cX8_ranked 7 (some .int) ∈ z_TB := z_t5 (i := 175) (by decide +kernel) rfl
theorem tw_1136 : Cond.methodLink RL 137 yX8_sums ∈ z_TB := z_t5 (i := 176) (by decide +kernel) rfl
theorem tw_1137 : Cond.instanceMethod yX8_sums ∈ z_TB := z_t5 (i := 177) (by decide +kernel) rfl
theorem tw_1138 : Cond.selects RX8 yX8_sums yX8_sums ∈ z_TB := z_t5 (i := 178) (by decide +kernel) rfl
theorem tw_1139 : Cond.code yX8_sums cX8_sums 5 (some .int) ∈ z_TB := z_t5 (i := 179) (by decide +kernel) rfl
theorem tw_1140 : Cond.methodLink RL 141 yX8_sheet ∈ z_TB := z_t5 (i := 180) (by decide +kernel) rfl
theorem tw_1141 : Cond.instanceMethod yX8_sheet ∈ z_TB := z_t5 (i := 181) (by decide +kernel) rfl
theorem tw_1142 : Cond.selects RX8 yX8_sheet yX8_sheet ∈ z_TB := z_t5 (i := 182) (by decide +kernel) rfl
theorem tw_1143 : Cond.code yX8_sheet cX8_sheet 5 (some .int) ∈ z_TB := z_t5 (i := 183) (by decide +kernel) rfl
theorem tw_1144 : Cond.methodLink RX8 274 yX8_isSheet ∈ z_TB := z_t5 (i := 184) (by decide +kernel) rfl
theorem tw_1145 : Cond.static yX8_isSheet ∈ z_TB := z_t5 (i := 185) (by decide +kernel) rfl
theorem tw_1146 : Cond.code yX8_isSheet cX8_isSheet 1 (some .boolean) ∈ z_TB := z_t5 (i := 186) (by decide +kernel) rfl
theorem tw_1147 : Cond.constantLong RX8 277 (-1) ∈ z_TB := z_t5 (i := 187) (by decide +kernel) rfl
theorem tw_1148 : Cond.methodLink RL 148 yX8_cell ∈ z_TB := z_t5 (i := 188) (by decide +kernel) rfl
theorem tw_1149 : Cond.instanceMethod yX8_cell ∈ z_TB := z_t5 (i := 189) (by decide +kernel) rfl
theorem tw_1150 : Cond.selects RX8 yX8_cell yX8_cell ∈ z_TB := z_t5 (i := 190) (by decide +kernel) rfl
theorem tw_1151 : Cond.code yX8_cell cX8_cell 6 (some .int) ∈ z_TB := z_t5 (i := 191) (by decide +kernel) rfl
theorem tw_1152 : Cond.methodLink RX8 279 yX8_wrong ∈ z_TB := z_t5 (i := 192) (by decide +kernel) rfl
theorem tw_1154 : Cond.instanceMethod yX8_wrong ∈ z_TB := z_t5 (i := 194) (by decide +kernel) rfl
theorem tw_1155 : Cond.code yX8_wrong cX8_wrong 3 (some .int) ∈ z_TB := z_t5 (i := 195) (by decide +kernel) rfl
theorem tw_1156 : Cond.methodLink RL 153 yX8_read ∈ z_TB := z_t5 (i := 196) (by decide +kernel) rfl
theorem tw_1157 : Cond.instanceMethod yX8_read ∈ z_TB := z_t5 (i := 197) (by decide +kernel) rfl
theorem tw_1158 : Cond.selects RX8 yX8_read yX8_read ∈ z_TB := z_t5 (i := 198) (by decide +kernel) rfl
theorem tw_1159 : Cond.code yX8_read cX8_read 4 (some .long) ∈ z_TB := z_t5 (i := 199) (by decide +kernel) rfl
theorem tw_1160 : Cond.methodLink RL 157 yX8_packs ∈ z_TB := z_t5 (i := 200) (by decide +kernel) rfl
theorem tw_1161 : Cond.instanceMethod yX8_packs ∈ z_TB := z_t5 (i := 201) (by decide +kernel) rfl
theorem tw_1162 : Cond.selects RX8 yX8_packs yX8_packs ∈ z_TB := z_t5 (i := 202) (by decide +kernel) rfl
theorem tw_1163 : Cond.code yX8_packs cX8_packs 9 (some .int) ∈ z_TB := z_t5 (i := 203) (by decide +kernel) rfl
theorem tw_1164 : Cond.methodLink RX8 282 yX8_noLongs ∈ z_TB := z_t5 (i := 204) (by decide +kernel) rfl
theorem tw_1166 : Cond.instanceMethod yX8_noLongs ∈ z_TB := z_t5 (i := 206) (by decide +kernel) rfl
theorem tw_1167 : Cond.code yX8_noLongs cX8_noLongs 2 (some .int) ∈ z_TB := z_t5 (i := 207) (by decide +kernel) rfl
theorem tw_1168 : Cond.constantLong RX8 285 (4096) ∈ z_TB := z_t5 (i := 208) (by decide +kernel) rfl
theorem tw_1169 : Cond.methodLink RX8 287 yX8_cell ∈ z_TB := z_t5 (i := 209) (by decide +kernel) rfl
theorem tw_1170 : Cond.methodLink RL 161 yX8_unpacks ∈ z_TB := z_t5 (i := 210) (by decide +kernel) rfl
theorem tw_1171 : Cond.instanceMethod yX8_unpacks ∈ z_TB := z_t5 (i := 211) (by decide +kernel) rfl
theorem tw_1172 : Cond.selects RX8 yX8_unpacks yX8_unpacks ∈ z_TB := z_t5 (i := 212) (by decide +kernel) rfl
theorem tw_1173 : Cond.code yX8_unpacks cX8_unpacks 8 (some .int) ∈ z_TB := z_t5 (i := 213) (by decide +kernel) rfl
theorem tw_1174 : Cond.constantLong RX8 291 (200) ∈ z_TB := z_t5 (i := 214) (by decide +kernel) rfl
theorem tw_1175 : Cond.methodLink RL 165 yX8_freqs ∈ z_TB := z_t5 (i := 215) (by decide +kernel) rfl
theorem tw_1176 : Cond.instanceMethod yX8_freqs ∈ z_TB := z_t5 (i := 216) (by decide +kernel) rfl
theorem tw_1177 : Cond.selects RX8 yX8_freqs yX8_freqs ∈ z_TB := z_t5 (i := 217) (by decide +kernel) rfl
theorem tw_1178 : Cond.code yX8_freqs cX8_freqs 5 (some .int) ∈ z_TB := z_t5 (i := 218) (by decide +kernel) rfl
theorem tw_1179 : Cond.methodLink RL 169 yX8_image ∈ z_TB := z_t5 (i := 219) (by decide +kernel) rfl
theorem tw_1180 : Cond.instanceMethod yX8_image ∈ z_TB := z_t5 (i := 220) (by decide +kernel) rfl
theorem tw_1181 : Cond.selects RX8 yX8_image yX8_image ∈ z_TB := z_t5 (i := 221) (by decide +kernel) rfl
theorem tw_1182 : Cond.code yX8_image cX8_image 1 (some .int) ∈ z_TB := z_t5 (i := 222) (by decide +kernel) rfl
theorem tw_1183 : Cond.methodLink RX8 297 yX8_copies ∈ z_TB := z_t5 (i := 223) (by decide +kernel) rfl
theorem tw_1184 : Cond.static yX8_copies ∈ z_TB := z_t5 (i := 224) (by decide +kernel) rfl
theorem tw_1185 : Cond.code yX8_copies cX8_copies 3 none ∈ z_TB := z_t5 (i := 225) (by decide +kernel) rfl
theorem tw_1186 : Cond.methodLink RX8 304 yX8_allHeld ∈ z_TB := z_t5 (i := 226) (by decide +kernel) rfl
theorem tw_1188 : Cond.instanceMethod yX8_allHeld ∈ z_TB := z_t5 (i := 228) (by decide +kernel) rfl
theorem tw_1189 : Cond.code yX8_allHeld cX8_allHeld 3 (some .int) ∈ z_TB := z_t5 (i := 229) (by decide +kernel) rfl
theorem tw_1190 : Cond.methodLink RL 173 yX8_back ∈ z_TB := z_t5 (i := 230) (by decide +kernel) rfl
theorem tw_1191 : Cond.instanceMethod yX8_back ∈ z_TB := z_t5 (i := 231) (by decide +kernel) rfl
theorem tw_1192 : Cond.selects RX8 yX8_back yX8_back ∈ z_TB := z_t5 (i := 232) (by decide +kernel) rfl
theorem tw_1193 : Cond.code yX8_back cX8_back 1 (some .int) ∈ z_TB := z_t5 (i := 233) (by decide +kernel) rfl
theorem tw_1194 : Cond.methodLink RL 177 yX8_count ∈ z_TB := z_t5 (i := 234) (by decide +kernel) rfl
theorem tw_1195 : Cond.instanceMethod yX8_count ∈ z_TB := z_t5 (i := 235) (by decide +kernel) rfl
theorem tw_1196 : Cond.selects RX8 yX8_count yX8_count ∈ z_TB := z_t5 (i := 236) (by decide +kernel) rfl
theorem tw_1197 : Cond.code yX8_count cX8_count 4 (some .int) ∈ z_TB := z_t5 (i := 237) (by decide +kernel) rfl
theorem tw_1198 : Cond.constantLong RL 142 (4294967295) ∈ z_TB := z_t5 (i := 238) (by decide +kernel) rfl
theorem ts_0 : Cond.selects RX7 yX7_tableOf yX7_tableOf ∈ z_TB := z_ts (i := 0) (by decide +kernel) rfl
theorem ts_1 : Cond.selects RX7 yX7_findDual yX7_findDual ∈ z_TB := z_ts (i := 1) (by decide +kernel) rfl
theorem ts_2 : Cond.selects RX6 yX6_visit yX6_visit ∈ z_TB := z_ts (i := 2) (by decide +kernel) rfl
theorem ts_3 : Cond.selects RX6 yX6_keepWithout yX6_keepWithout ∈ z_TB := z_ts (i := 3) (by decide +kernel) rfl
theorem ts_4 : Cond.selects RX6 yX6_keepReduced yX6_keepReduced ∈ z_TB := z_ts (i := 4) (by decide +kernel) rfl
theorem ts_5 : Cond.selects RX5 yX5_commonWord yX5_commonWord ∈ z_TB := z_ts (i := 5) (by decide +kernel) rfl
theorem ts_6 : Cond.selects RX7 yX7_fillSpare yX7_fillSpare ∈ z_TB := z_ts (i := 6) (by decide +kernel) rfl
theorem ts_7 : Cond.selects RX7 yX7_isNoRule yX7_isNoRule ∈ z_TB := z_ts (i := 7) (by decide +kernel) rfl
theorem ts_8 : Cond.selects RX7 yX7_tellsNow yX7_tellsNow ∈ z_TB := z_ts (i := 8) (by decide +kernel) rfl
theorem ts_9 : Cond.selects RX7 yX7_tells yX7_tells ∈ z_TB := z_ts (i := 9) (by decide +kernel) rfl
theorem ts_10 : Cond.selects RX7 yX7_tellsByParts yX7_tellsByParts ∈ z_TB := z_ts (i := 10) (by decide +kernel) rfl
theorem ts_11 : Cond.selects RX7 yX7_tellsAlone yX7_tellsAlone ∈ z_TB := z_ts (i := 11) (by decide +kernel) rfl
theorem ts_12 : Cond.selects RX7 yX7_rankOf yX7_rankOf ∈ z_TB := z_ts (i := 12) (by decide +kernel) rfl
theorem ts_13 : Cond.selects RX8 yX8_remembers yX8_remembers ∈ z_TB := z_ts (i := 13) (by decide +kernel) rfl
theorem ts_14 : Cond.selects RX8 yX8_tallyOf yX8_tallyOf ∈ z_TB := z_ts (i := 14) (by decide +kernel) rfl
theorem ts_15 : Cond.selects RX8 yX8_placeOf yX8_placeOf ∈ z_TB := z_ts (i := 15) (by decide +kernel) rfl
theorem ts_16 : Cond.selects RX8 yX8_setOf yX8_setOf ∈ z_TB := z_ts (i := 16) (by decide +kernel) rfl
theorem ts_17 : Cond.selects RX8 yX8_tells yX8_tells ∈ z_TB := z_ts (i := 17) (by decide +kernel) rfl
theorem ts_18 : Cond.selects RX8 yX8_takes yX8_takes ∈ z_TB := z_ts (i := 18) (by decide +kernel) rfl
theorem ts_19 : Cond.selects RX8 yX8_drops yX8_drops ∈ z_TB := z_ts (i := 19) (by decide +kernel) rfl
theorem ts_20 : Cond.selects RX8 yX8_oftenIn yX8_oftenIn ∈ z_TB := z_ts (i := 20) (by decide +kernel) rfl
theorem ts_21 : Cond.selects RX8 yX8_hasPart yX8_hasPart ∈ z_TB := z_ts (i := 21) (by decide +kernel) rfl
theorem ts_22 : Cond.selects RX8 yX8_does yX8_does ∈ z_TB := z_ts (i := 22) (by decide +kernel) rfl
theorem ts_23 : Cond.selects RX8 yX8_wants yX8_wants ∈ z_TB := z_ts (i := 23) (by decide +kernel) rfl
theorem ts_24 : Cond.selects RX8 yX8_hits yX8_hits ∈ z_TB := z_ts (i := 24) (by decide +kernel) rfl
theorem ts_25 : Cond.selects RX8 yX8_findsDual yX8_findsDual ∈ z_TB := z_ts (i := 25) (by decide +kernel) rfl
theorem ts_26 : Cond.selects RX8 yX8_findsLeast yX8_findsLeast ∈ z_TB := z_ts (i := 26) (by decide +kernel) rfl
theorem ts_27 : Cond.selects RX8 yX8_leastAt yX8_leastAt ∈ z_TB := z_ts (i := 27) (by decide +kernel) rfl
theorem ts_28 : Cond.selects RX8 yX8_findsTree yX8_findsTree ∈ z_TB := z_ts (i := 28) (by decide +kernel) rfl
theorem ts_29 : Cond.selects RX8 yX8_thins yX8_thins ∈ z_TB := z_ts (i := 29) (by decide +kernel) rfl
theorem ts_30 : Cond.selects RX8 yX8_grows yX8_grows ∈ z_TB := z_ts (i := 30) (by decide +kernel) rfl
theorem ts_31 : Cond.selects RX8 yX8_topOf yX8_topOf ∈ z_TB := z_ts (i := 31) (by decide +kernel) rfl
theorem ts_32 : Cond.selects RX8 yX8_supportOf yX8_supportOf ∈ z_TB := z_ts (i := 32) (by decide +kernel) rfl
theorem ts_33 : Cond.selects RX8 yX8_isBorder yX8_isBorder ∈ z_TB := z_ts (i := 33) (by decide +kernel) rfl
theorem ts_34 : Cond.selects RX8 yX8_isRule yX8_isRule ∈ z_TB := z_ts (i := 34) (by decide +kernel) rfl
theorem ts_35 : Cond.selects RX8 yX8_worthOf yX8_worthOf ∈ z_TB := z_ts (i := 35) (by decide +kernel) rfl
theorem ts_36 : Cond.selects RX8 yX8_first yX8_first ∈ z_TB := z_ts (i := 36) (by decide +kernel) rfl
theorem ts_37 : Cond.selects RX8 yX8_metBy yX8_metBy ∈ z_TB := z_ts (i := 37) (by decide +kernel) rfl
theorem ts_38 : Cond.selects RX8 yX8_wrong yX8_wrong ∈ z_TB := z_ts (i := 38) (by decide +kernel) rfl
theorem ts_39 : Cond.selects RX8 yX8_noLongs yX8_noLongs ∈ z_TB := z_ts (i := 39) (by decide +kernel) rfl
theorem ts_40 : Cond.selects RX8 yX8_allHeld yX8_allHeld ∈ z_TB := z_ts (i := 40) (by decide +kernel) rfl
end
section
/-! pure words: a state is what the int places and the long places hold -/
abbrev zS : Type := (Nat → Nat → Int32) × (Nat → Nat → Int64)
def z_fI (σ : zS) (p : Nat) (f : Nat → Int32) : zS := (va_up σ.1 p f, σ.2)
def z_fJ (σ : zS) (p : Nat) (f : Nat → Int64) : zS := (σ.1, va_up σ.2 p f)
def z_sI (σ : zS) (p k : Nat) (v : Int32) : zS := z_fI σ p (upd (σ.1 p) k v)
def z_sJ (σ : zS) (p k : Nat) (v : Int64) : zS := z_fJ σ p (vp_updL (σ.2 p) k v)
def z_lt {α β : Type} (e : α) (f : α → β) : β := f e
def z_gd {α : Type} (b : Bool) (x : Option α) : Option α := if b = true then x else none
def z_jn {α β : Type} (r : α) (b : α → β) : β := b r
def z_in (i : Int32) (n : Nat) : Bool := decide (0 ≤ i.toInt ∧ i.toInt < n)
def z_bz (v : Int32) : Bool := decide (v = 0 ∨ v = 1)
def z_nz (v : Int32) : Bool := decide (¬ v = 0)
def z_cp (sp dp n : Int32) (n0 n1 : Nat) : Bool := decide (0 ≤ sp.toInt ∧ 0 ≤ dp.toInt ∧ 0 ≤ n.toInt ∧ sp.toInt + n.toInt ≤ n0 ∧ dp.toInt + n.toInt ≤ n1)
theorem z_lt_at {α β : Type} {e x : α} {f : α → β} {r : β} (ex : x = e) (h : z_lt e f = r) : f x = r := by subst ex; exact h
theorem z_gd_at {α : Type} {b : Bool} {x : Option α} {r : α} (h : z_gd b x = some r) : b = true ∧ x = some r := by
  unfold z_gd at h
  split at h
  · exact ⟨by assumption, h⟩
  · cases h
theorem z_gd_t {α : Type} {b : Bool} {x : Option α} (h : b = true) : z_gd b x = x := if_pos h
theorem z_if_t {α : Type} {c : Prop} {d : Decidable c} {a b r : α} (hc : c) (h : (@ite α c d a b) = r) : a = r := by rw [if_pos hc] at h; exact h
theorem z_if_f {α : Type} {c : Prop} {d : Decidable c} {a b r : α} (hc : ¬ c) (h : (@ite α c d a b) = r) : b = r := by rw [if_neg hc] at h; exact h
theorem z_bd_at {α β : Type} {x : Option α} {f : α → Option β} {r : β} (h : x.bind f = some r) : ∃ a, x = some a ∧ f a = some r := Option.bind_eq_some_iff.mp h
theorem z_in_vp {i : Int32} {n : Nat} (h : z_in i n = true) : vp_in i n := vp_in_iff.mpr (of_decide_eq_true h)
theorem z_bz_n {v : Int32} (h : z_bz v = true) : narrow .boolean (.int v) = .int v := by
  rcases (of_decide_eq_true h : v = 0 ∨ v = 1) with rfl | rfl <;> rfl
theorem z_nz_n {v : Int32} (h : z_nz v = true) : ¬ v = 0 := of_decide_eq_true h
theorem z_nn {z : Int32} (h : 0 ≤ z.toInt) : ¬ z < 0 := by
  intro q
  have := Int32.lt_iff_toInt_lt.mp q
  have e : (0 : Int32).toInt = 0 := rfl
  omega
theorem z_clamp {z : Int32} (h : 0 ≤ z.toInt) : (z.toNatClampNeg : Int) = z.toInt := by
  show ((z.toInt.toNat : Nat) : Int) = z.toInt
  omega
theorem z_ne {x k : Int32} {z : Int} (hk : k.toInt = z) (h : ¬ x = k) : ¬ x.toInt = z := fun e => h (Int32.toInt_inj.mp (e.trans hk.symm))
/-! the world of a layout -/
abbrev zL : Type := Nat × ((Nat → ClassId) → (Nat → Nat) → Nat → (Nat → Int32) → (Nat → Int64) → va_E)
abbrev zY : Type := va_G × (Nat → ClassId) × (Nat → Nat) × Nat × Nat
abbrev z_ad (Y : zY) : Nat → Nat := Y.2.2.1
def z_cls : List vw_C := [(RX0, TX0, 4), (RX1, TX1, 3), (RX2, TX2, 7), (RX3, TX3, 3), (RX4, TX4, 3), (RX5, TX5, 2), (RX6, TX6, 10), (RX7, TX7, 11), (RX8, TX8, 39)]
def z_tys (Y : zY) : List (ClassId × FieldType) := [(Y.2.1 0, .int), (Y.2.1 1, .long), (Y.2.1 2, .boolean), (Y.2.1 3, .object RX1), (Y.2.1 4, .object RX2), (Y.2.1 5, .object RX3), (Y.2.1 6, .array .int)]
def z_wl (Λ : zL) (Y : zY) (σ : zS) : va_W := (List.range Λ.1).map (fun p => (z_ad Y p, Λ.2 Y.2.1 (z_ad Y) p (σ.1 p) (σ.2 p)))
def z_A (Λ : zL) (Y : zY) : Nat → Prop := fun q => ∃ p, p < Λ.1 ∧ z_ad Y p = q
def z_inj (Λ : zL) (Y : zY) : Prop := ∀ i j, i < Λ.1 → j < Λ.1 → z_ad Y i = z_ad Y j → i = j
theorem z_wl_get {Λ : zL} {Y : zY} {σ : zS} {p : Nat} (h : p < Λ.1) : (z_wl Λ Y σ)[p]? = some (z_ad Y p, Λ.2 Y.2.1 (z_ad Y) p (σ.1 p) (σ.2 p)) := by
  unfold z_wl
  rw [List.getElem?_map, List.getElem?_range h]
  rfl
theorem z_wl_of {Λ : zL} {Y : zY} {σ : zS} {k : Nat} {q : Nat × va_E} (h : (z_wl Λ Y σ)[k]? = some q) : k < Λ.1 ∧ q = (z_ad Y k, Λ.2 Y.2.1 (z_ad Y) k (σ.1 k) (σ.2 k)) := by
  have hk : k < Λ.1 := by
    have := (List.getElem?_eq_some_iff.mp h).1
    simpa [z_wl] using this
  rw [z_wl_get hk] at h
  exact ⟨hk, (Option.some.inj h).symm⟩
theorem z_wl_set {Λ : zL} {Y : zY} {σ τ : zS} {p : Nat} {e : va_E} (he : Λ.2 Y.2.1 (z_ad Y) p (τ.1 p) (τ.2 p) = e) (hq : ∀ q, q ≠ p → τ.1 q = σ.1 q ∧ τ.2 q = σ.2 q) : (z_wl Λ Y σ).set p (z_ad Y p, e) = z_wl Λ Y τ := by
  apply List.ext_getElem?
  intro k
  by_cases hk : k < Λ.1
  · rw [z_wl_get (σ := τ) hk]
    by_cases hkp : k = p
    · subst hkp
      rw [List.getElem?_set_self (by simpa [z_wl] using hk), he]
    · rw [List.getElem?_set_ne (Ne.symm hkp), z_wl_get hk, (hq k hkp).1, (hq k hkp).2]
  · have h1 : (z_wl Λ Y τ)[k]? = none := List.getElem?_eq_none (by simpa [z_wl] using hk)
    rw [h1]
    exact List.getElem?_eq_none (by simpa [z_wl] using hk)
theorem z_D {Λ : zL} {Y : zY} {σ : zS} (h : z_inj Λ Y) : va_D (z_A Λ Y) (z_wl Λ Y σ) := by
  refine ⟨fun i j x y hi hj hxy => ?_, fun k q hk => ?_⟩
  · obtain ⟨h1, rfl⟩ := z_wl_of hi
    obtain ⟨h2, rfl⟩ := z_wl_of hj
    exact h i j h1 h2 hxy
  · obtain ⟨h1, rfl⟩ := z_wl_of hk
    exact ⟨k, h1, rfl⟩
theorem z_fI_o {σ : zS} {p : Nat} {f : Nat → Int32} : ∀ q, q ≠ p → (z_fI σ p f).1 q = σ.1 q ∧ (z_fI σ p f).2 q = σ.2 q := fun q h => ⟨if_neg h, rfl⟩
theorem z_fJ_o {σ : zS} {p : Nat} {f : Nat → Int64} : ∀ q, q ≠ p → (z_fJ σ p f).1 q = σ.1 q ∧ (z_fJ σ p f).2 q = σ.2 q := fun q h => ⟨rfl, if_neg h⟩
theorem z_fI_s {σ : zS} {p : Nat} {f : Nat → Int32} : (z_fI σ p f).1 p = f := if_pos rfl
theorem z_fJ_s {σ : zS} {p : Nat} {f : Nat → Int64} : (z_fJ σ p f).2 p = f := if_pos rfl
def z_withL : Nat → Int64 := fun k => match k with
  | 0 => -6148914691236517206
  | 1 => -3689348814741910324
  | 2 => -1085102592571150096
  | 3 => -71777214294589696
  | 4 => -281470681808896
  | _ => -4294967296
def z_ofcL : Nat → Int64 := fun k => match k with
  | 0 => 1
  | 1 => 4295033110
  | 2 => 282668995843688
  | 3 => 78274679833913472
  | 4 => 1614655367130677248
  | 5 => 7530159316599308288
  | _ => -9223372036854775808
def z_nest : List Cond := [Cond.methodLinkNest RX1 48 yX7_isPart RX7, Cond.methodLinkNest RX5 52 yX7_hasPoint RX7, Cond.methodLinkNest RX5 87 yX7_isNoSet RX7, Cond.methodLinkNest RX6 50 yX7_topPoint RX7, Cond.methodLinkNest RX6 78 yX7_hasPoint RX7, Cond.methodLinkNest RX6 86 yX7_isPart RX7, Cond.methodLinkNest RX5 69 yX7_isPart RX7]
/-- what is given and stays: the two tables of Table, and what nest mates may call -/
def z_st (A : Nat → Prop) (Y : zY) (U : State) (H : Heap) : Prop := va_Z RX5 "WITH" "[J" (.ref Y.2.2.2.1) A U H ∧ va_T .long Y.2.2.2.1 6 (fun k => .long (z_withL k)) A U H ∧ va_Z RX5 "OF_COUNT" "[J" (.ref Y.2.2.2.2) A U H ∧ va_T .long Y.2.2.2.2 7 (fun k => .long (z_ofcL k)) A U H ∧ ∀ w ∈ z_nest, va_Nw w U
theorem z_nestw {s U : State} (hW : s.WarmedH U.vm) (h : ∀ w ∈ z_nest, va_Nw w s) : ∀ w ∈ z_nest, va_Nw w U := by
  intro w hw
  have h1 := h w hw
  simp only [z_nest, List.mem_cons, List.not_mem_nil, or_false] at hw
  rcases hw with rfl | rfl | rfl | rfl | rfl | rfl | rfl <;> exact va_Nw.warmM hW h1
theorem z_nests {s U : State} (hv : s.vm = U.vm) (h : ∀ w ∈ z_nest, va_Nw w s) : ∀ w ∈ z_nest, va_Nw w U := by
  intro w hw
  have h1 := h w hw
  simp only [z_nest, List.mem_cons, List.not_mem_nil, or_false] at hw
  rcases hw with rfl | rfl | rfl | rfl | rfl | rfl | rfl <;> exact va_Nw.same rfl hv h1
theorem z_st_to {A : Nat → Prop} {Y : zY} {s U : State} {H : Heap} {locs : List Loc} (hW : s.WarmedH U.vm) (hU : U.heap = H) (hS : va_S A s.heap H locs) (h : z_st A Y s s.heap) : z_st A Y U U.heap := by
  obtain ⟨h1, h2, h3, h4, h5⟩ := h
  rw [hU]
  exact ⟨va_Z.moved hW.alike (h1.kept hS.2.1), va_T.moved hW.alike (h2.kept hS.2.1), va_Z.moved hW.alike (h3.kept hS.2.1), va_T.moved hW.alike (h4.kept hS.2.1), z_nestw hW h5⟩
theorem z_st_call {A : Nat → Prop} {Y : zY} {U : State} {g : JFrame} {mk : MethodId} {a : Array Value} (h : z_st A Y U U.heap) : z_st A Y (U.calling g mk a) (U.calling g mk a).heap := by
  obtain ⟨h1, h2, h3, h4, h5⟩ := h
  exact ⟨va_Z.moved (u := U) (U := U.calling g mk a) (Vm.Alike.refl U.vm) h1, va_T.moved (u := U) (U := U.calling g mk a) (Vm.Alike.refl U.vm) h2, va_Z.moved (u := U) (U := U.calling g mk a) (Vm.Alike.refl U.vm) h3, va_T.moved (u := U) (U := U.calling g mk a) (Vm.Alike.refl U.vm) h4, z_nests (s := U) (U := U.calling g mk a) rfl h5⟩
def z_rm (r : Nat) : Room := { frames := r, cells := 0, slots := 0, locals := 64 * r }
/-- a contract's start -/
def z_Pc (Λ : zL) (Y : zY) (σ : zS) (av : List Value) : Array Value → State → Prop := va_Pc av (fun U => va_P Y.1 z_cls (z_wl Λ Y σ) U.heap ∧ va_K Y.1 z_cls (z_tys Y) U ∧ z_st (z_A Λ Y) Y U U.heap)
def z_B (Λ : zL) (Y : zY) : zS → State → Prop := fun u t => va_P Y.1 z_cls (z_wl Λ Y u) t.heap
def z_Qi (Λ : zL) (Y : zY) (fin : Int32 × zS) : Array Value → State → Outcome → State → Prop := va_Qi (fun r u => (r, u) = fin) (z_B Λ Y) (z_A Λ Y)
def z_Ql (Λ : zL) (Y : zY) (fin : Int64 × zS) : Array Value → State → Outcome → State → Prop := va_Ql (fun r u => (r, u) = fin) (z_B Λ Y) (z_A Λ Y)
def z_Qv (Λ : zL) (Y : zY) (fin : zS) : Array Value → State → Outcome → State → Prop := va_Qv (fun u => u = fin) (z_B Λ Y) (z_A Λ Y)
def z_Qr (Λ : zL) (Y : zY) (fin : Nat × zS) : Array Value → State → Outcome → State → Prop := va_Qr (fun u => u = fin.2) (fun u a t => a = z_ad Y fin.1 ∧ z_B Λ Y u t) (z_A Λ Y)
theorem z_blind {Λ : zL} {Y : zY} {σ : zS} {av : List Value} : FrameBlind (z_Pc Λ Y σ av) := fun a U g mk q => ⟨q.1, q.2.1, va_K.moved (u := U) (U := U.calling g mk a) (Vm.Alike.refl U.vm) q.2.2.1, z_st_call q.2.2.2⟩
/-- what holds all along a method -/
def z_ok (Λ : zL) (Y : zY) (p : Program) (s : State) (m : MethodId) (args : Array Value) (c : Code) (cc : ByteArray) (own : String) (nL : Nat) : Prop :=
  p.tables.exec = Jvm.exec ∧ c.code = cc ∧ c.maxLocals = nL ∧ s.vm.findClass own = some m.cls ∧ (∀ w ∈ z_TB, w.before args s = true) ∧ va_K Y.1 z_cls (z_tys Y) s ∧ z_st (z_A Λ Y) Y s s.heap ∧ z_inj Λ Y
def z_G (p : Program) (l : Launch) (e : Env) (R : Room) (s : State) (m : MethodId) (args : Array Value) (below : List Frame) (meth : Method) (c : Code) (Q : State → Prop) (Λ : zL) (Y : zY) (nL : Nat) (σ : zS) (lv : List (Nat × Value)) (pc : Nat) (st : List Value) : Prop :=
  ∀ (H : Heap) (locs : List Loc) (ls : Array Slot), va_P Y.1 z_cls (z_wl Λ Y σ) H → va_S (z_A Λ Y) s.heap H locs → lv_has ls nL lv → W p l e R s m args below meth c H locs 0 0 Q (F0 m pc ls st)
def z_d (cc : ByteArray) (pc : Nat) (i : Instr) (n pc' : Nat) : Prop := decode cc pc = .ok (i, n) ∧ pc + n = pc'
def z_b (cc : ByteArray) (pc : Nat) (i : Instr) (off : Int) (pc' tgt : Nat) : Prop := decode cc pc = .ok (i, 3) ∧ pc + 3 = pc' ∧ (pc : Int) + off = (tgt : Int)
theorem z_met {l : Launch} {y : MethodName} {cc : ByteArray} {maxL r : Nat} {ret : Option FieldType} {Λ : zL} {Y : zY} {σ : zS} {av : List Value} {Qc : Array Value → State → Outcome → State → Prop} (lv : List (Nat × Value)) (hlv : lv_args 0 av = lv) (hlen : (lg_sl av).length ≤ maxL) (hy : plainName y.cls = true) (hi : z_inj Λ Y)
    (body : ∀ p e s m args below meth c, z_ok Λ Y p s m args c cc y.cls maxL → meth.sig.returnType = ret → meth.locks = false → z_G p l e (z_rm r) s m args below meth c (MQ below Qc args s 0 0 (z_A Λ Y)) Λ Y maxL σ lv 0 []) :
    Met l y (Cond.code y cc maxL ret :: z_TB) (z_rm r) (z_Pc Λ Y σ av) Qc 0 0 (z_A Λ Y) := by
  refine Met.ofW (cc := cc) (maxL := maxL) (ret := ret) hy rfl ?_
  intro p e s m args below meth c s₁ B hml hv
  obtain ⟨rfl, hP, hK, hZ⟩ := hv
  have hts := atoms_spec (ws := Cond.code y cc maxL ret :: z_TB) B.pre
  have hl := lv_entry av (n := maxL) hlen
  rw [lg_entry_eq]
  generalize (lg_sl av ++ List.replicate (maxL - (lg_sl av).length) Slot.unset).toArray = ls at hl ⊢
  rw [hlv] at hl
  exact body p e s m av.toArray below meth c ⟨B.exec, B.bytes, hml, findClass_of_methodNamed B.named, fun w hw => hts w (List.mem_cons_of_mem _ hw), hK, hZ, hi⟩ B.returns B.notSynchronized s.heap [] ls hP va_S.rf hl
section ZROWS
variable {p : Program} {l : Launch} {e : Env} {R : Room} {s : State} {m : MethodId} {args : Array Value} {below : List Frame} {meth : Method} {c : Code} {Q : State → Prop} {Λ : zL} {Y : zY} {cc : ByteArray} {own : String} {nL : Nat} {σ : zS} {lv lv' : List (Nat × Value)} {pc pc' tgt : Nat} {rest : List Value}

theorem z_iconst (O : z_ok Λ Y p s m args c cc own nL) {n : Int} {v : Int32} (hd : z_d cc pc (.iconst n) 1 pc') (hv : Int32.ofInt n = v) (k : z_G p l e R s m args below meth c Q Λ Y nL σ lv pc' (.int v :: rest)) : z_G p l e R s m args below meth c Q Λ Y nL σ lv pc rest := by
  obtain ⟨hd, rfl⟩ := hd
  exact fun H locs ls hP hS hl => lv_iconst O.1 O.2.1 hd hv (k H locs ls hP hS hl)

theorem z_bipush (O : z_ok Λ Y p s m args c cc own nL) {n : Int} {v : Int32} (hd : z_d cc pc (.bipush n) 2 pc') (hv : (Int8.ofInt n).toInt32 = v) (k : z_G p l e R s m args below meth c Q Λ Y nL σ lv pc' (.int v :: rest)) : z_G p l e R s m args below meth c Q Λ Y nL σ lv pc rest := by
  obtain ⟨hd, rfl⟩ := hd
  exact fun H locs ls hP hS hl => lv_bipush O.1 O.2.1 hd hv (k H locs ls hP hS hl)

theorem z_sipush (O : z_ok Λ Y p s m args c cc own nL) {n : Int} {v : Int32} (hd : z_d cc pc (.sipush n) 3 pc') (hv : (Int16.ofInt n).toInt32 = v) (k : z_G p l e R s m args below meth c Q Λ Y nL σ lv pc' (.int v :: rest)) : z_G p l e R s m args below meth c Q Λ Y nL σ lv pc rest := by
  obtain ⟨hd, rfl⟩ := hd
  exact fun H locs ls hP hS hl => lv_sipush O.1 O.2.1 hd hv (k H locs ls hP hS hl)

theorem z_lconst (O : z_ok Λ Y p s m args c cc own nL) {n : Fin 2} {v : Int64} (hd : z_d cc pc (.lconst n) 1 pc') (hv : Int64.ofNat (n : Nat) = v) (k : z_G p l e R s m args below meth c Q Λ Y nL σ lv pc' (.long v :: rest)) : z_G p l e R s m args below meth c Q Λ Y nL σ lv pc rest := by
  obtain ⟨hd, rfl⟩ := hd
  exact fun H locs ls hP hS hl => lv_lconst O.1 O.2.1 hd hv (k H locs ls hP hS hl)

theorem z_iload_n (O : z_ok Λ Y p s m args c cc own nL) {k : Fin 4} {i : Nat} {x : Int32} (hd : z_d cc pc (.iload_n k) 1 pc') (hi : (k : Nat) = i) (q : Nat) (hq : lv[q]? = some (i, .int x)) (k : z_G p l e R s m args below meth c Q Λ Y nL σ lv pc' (.int x :: rest)) : z_G p l e R s m args below meth c Q Λ Y nL σ lv pc rest := by
  obtain ⟨hd, rfl⟩ := hd
  exact fun H locs ls hP hS hl => lv_iload_n O.1 O.2.1 hd hi (lv_at hl q hq) (k H locs ls hP hS hl)

theorem z_iload (O : z_ok Λ Y p s m args c cc own nL) {i : Nat} {x : Int32} (hd : z_d cc pc (.iload i) 2 pc') (q : Nat) (hq : lv[q]? = some (i, .int x)) (k : z_G p l e R s m args below meth c Q Λ Y nL σ lv pc' (.int x :: rest)) : z_G p l e R s m args below meth c Q Λ Y nL σ lv pc rest := by
  obtain ⟨hd, rfl⟩ := hd
  exact fun H locs ls hP hS hl => lv_iload O.1 O.2.1 hd (lv_at hl q hq) (k H locs ls hP hS hl)

theorem z_lload_n (O : z_ok Λ Y p s m args c cc own nL) {k : Fin 4} {i : Nat} {x : Int64} (hd : z_d cc pc (.lload_n k) 1 pc') (hi : (k : Nat) = i) (q : Nat) (hq : lv[q]? = some (i, .long x)) (k : z_G p l e R s m args below meth c Q Λ Y nL σ lv pc' (.long x :: rest)) : z_G p l e R s m args below meth c Q Λ Y nL σ lv pc rest := by
  obtain ⟨hd, rfl⟩ := hd
  exact fun H locs ls hP hS hl => lv_lload_n O.1 O.2.1 hd hi (lv_at hl q hq) (k H locs ls hP hS hl)

theorem z_lload (O : z_ok Λ Y p s m args c cc own nL) {i : Nat} {x : Int64} (hd : z_d cc pc (.lload i) 2 pc') (q : Nat) (hq : lv[q]? = some (i, .long x)) (k : z_G p l e R s m args below meth c Q Λ Y nL σ lv pc' (.long x :: rest)) : z_G p l e R s m args below meth c Q Λ Y nL σ lv pc rest := by
  obtain ⟨hd, rfl⟩ := hd
  exact fun H locs ls hP hS hl => lv_lload O.1 O.2.1 hd (lv_at hl q hq) (k H locs ls hP hS hl)

theorem z_aload_n (O : z_ok Λ Y p s m args c cc own nL) {k : Fin 4} {i : Nat} {x : Nat} (hd : z_d cc pc (.aload_n k) 1 pc') (hi : (k : Nat) = i) (q : Nat) (hq : lv[q]? = some (i, .ref x)) (k : z_G p l e R s m args below meth c Q Λ Y nL σ lv pc' (.ref x :: rest)) : z_G p l e R s m args below meth c Q Λ Y nL σ lv pc rest := by
  obtain ⟨hd, rfl⟩ := hd
  exact fun H locs ls hP hS hl => lv_aload_n O.1 O.2.1 hd hi (lv_at hl q hq) (k H locs ls hP hS hl)

theorem z_aload (O : z_ok Λ Y p s m args c cc own nL) {i : Nat} {x : Nat} (hd : z_d cc pc (.aload i) 2 pc') (q : Nat) (hq : lv[q]? = some (i, .ref x)) (k : z_G p l e R s m args below meth c Q Λ Y nL σ lv pc' (.ref x :: rest)) : z_G p l e R s m args below meth c Q Λ Y nL σ lv pc rest := by
  obtain ⟨hd, rfl⟩ := hd
  exact fun H locs ls hP hS hl => lv_aload O.1 O.2.1 hd (lv_at hl q hq) (k H locs ls hP hS hl)

theorem z_istore_n (O : z_ok Λ Y p s m args c cc own nL) {k : Fin 4} {i : Nat} {x : Int32} (hd : z_d cc pc (.istore_n k) 1 pc') (hi : (k : Nat) = i) (hn : i < nL) (hl' : (i, Value.int x) :: lv.filter (fun q => !(q.1 == i) && !(q.1 + 1 == i && q.2.category == 2)) = lv') (k : z_G p l e R s m args below meth c Q Λ Y nL σ lv' pc' rest) : z_G p l e R s m args below meth c Q Λ Y nL σ lv pc (.int x :: rest) := by
  obtain ⟨hd, rfl⟩ := hd
  exact fun H locs ls hP hS hl => lv_istore_n O.1 O.2.1 hd hi hl hn hl' (fun ls hl => k H locs ls hP hS hl)

theorem z_istore (O : z_ok Λ Y p s m args c cc own nL) {i : Nat} {x : Int32} (hd : z_d cc pc (.istore i) 2 pc') (hn : i < nL) (hl' : (i, Value.int x) :: lv.filter (fun q => !(q.1 == i) && !(q.1 + 1 == i && q.2.category == 2)) = lv') (k : z_G p l e R s m args below meth c Q Λ Y nL σ lv' pc' rest) : z_G p l e R s m args below meth c Q Λ Y nL σ lv pc (.int x :: rest) := by
  obtain ⟨hd, rfl⟩ := hd
  exact fun H locs ls hP hS hl => lv_istore O.1 O.2.1 hd hl hn hl' (fun ls hl => k H locs ls hP hS hl)

theorem z_lstore_n (O : z_ok Λ Y p s m args c cc own nL) {k : Fin 4} {i : Nat} {x : Int64} (hd : z_d cc pc (.lstore_n k) 1 pc') (hi : (k : Nat) = i) (hn : i + 1 < nL) (hl' : (i, Value.long x) :: lv.filter (fun q => !(q.1 == i) && (!(q.1 == i + 1) && !(q.1 + 1 == i && q.2.category == 2))) = lv') (k : z_G p l e R s m args below meth c Q Λ Y nL σ lv' pc' rest) : z_G p l e R s m args below meth c Q Λ Y nL σ lv pc (.long x :: rest) := by
  obtain ⟨hd, rfl⟩ := hd
  exact fun H locs ls hP hS hl => lv_lstore_n O.1 O.2.1 hd hi hl hn hl' (fun ls hl => k H locs ls hP hS hl)

theorem z_lstore (O : z_ok Λ Y p s m args c cc own nL) {i : Nat} {x : Int64} (hd : z_d cc pc (.lstore i) 2 pc') (hn : i + 1 < nL) (hl' : (i, Value.long x) :: lv.filter (fun q => !(q.1 == i) && (!(q.1 == i + 1) && !(q.1 + 1 == i && q.2.category == 2))) = lv') (k : z_G p l e R s m args below meth c Q Λ Y nL σ lv' pc' rest) : z_G p l e R s m args below meth c Q Λ Y nL σ lv pc (.long x :: rest) := by
  obtain ⟨hd, rfl⟩ := hd
  exact fun H locs ls hP hS hl => lv_lstore O.1 O.2.1 hd hl hn hl' (fun ls hl => k H locs ls hP hS hl)

theorem z_astore_n (O : z_ok Λ Y p s m args c cc own nL) {k : Fin 4} {i : Nat} {x : Nat} (hd : z_d cc pc (.astore_n k) 1 pc') (hi : (k : Nat) = i) (hn : i < nL) (hl' : (i, Value.ref x) :: lv.filter (fun q => !(q.1 == i) && !(q.1 + 1 == i && q.2.category == 2)) = lv') (k : z_G p l e R s m args below meth c Q Λ Y nL σ lv' pc' rest) : z_G p l e R s m args below meth c Q Λ Y nL σ lv pc (.ref x :: rest) := by
  obtain ⟨hd, rfl⟩ := hd
  exact fun H locs ls hP hS hl => lv_astore_n O.1 O.2.1 hd hi hl hn hl' (fun ls hl => k H locs ls hP hS hl)

theorem z_astore (O : z_ok Λ Y p s m args c cc own nL) {i : Nat} {x : Nat} (hd : z_d cc pc (.astore i) 2 pc') (hn : i < nL) (hl' : (i, Value.ref x) :: lv.filter (fun q => !(q.1 == i) && !(q.1 + 1 == i && q.2.category == 2)) = lv') (k : z_G p l e R s m args below meth c Q Λ Y nL σ lv' pc' rest) : z_G p l e R s m args below meth c Q Λ Y nL σ lv pc (.ref x :: rest) := by
  obtain ⟨hd, rfl⟩ := hd
  exact fun H locs ls hP hS hl => lv_astore O.1 O.2.1 hd hl hn hl' (fun ls hl => k H locs ls hP hS hl)

theorem z_iinc (O : z_ok Λ Y p s m args c cc own nL) {i k : Nat} {n : Int} {x v : Int32} (hd : z_d cc pc (.iinc i n) 3 pc') (q : Nat) (hk : lv[q]? = some (i, .int x)) (hv : x + Int32.ofInt n = v) (hn : i < nL) (hl' : (i, Value.int v) :: lv.filter (fun q => !(q.1 == i) && !(q.1 + 1 == i && q.2.category == 2)) = lv') (k : z_G p l e R s m args below meth c Q Λ Y nL σ lv' pc' rest) : z_G p l e R s m args below meth c Q Λ Y nL σ lv pc rest := by
  obtain ⟨hd, rfl⟩ := hd
  exact fun H locs ls hP hS hl => lv_iinc O.1 O.2.1 hd hl hk hv hn hl' (fun ls hl => k H locs ls hP hS hl)

theorem z_iadd (O : z_ok Λ Y p s m args c cc own nL) {x y : Int32} (hd : z_d cc pc (.iadd) 1 pc') (k : z_G p l e R s m args below meth c Q Λ Y nL σ lv pc' (.int (x + y) :: rest)) : z_G p l e R s m args below meth c Q Λ Y nL σ lv pc (.int y :: .int x :: rest) := by
  obtain ⟨hd, rfl⟩ := hd
  exact fun H locs ls hP hS hl => lv_iadd O.1 O.2.1 hd (k H locs ls hP hS hl)

theorem z_isub (O : z_ok Λ Y p s m args c cc own nL) {x y : Int32} (hd : z_d cc pc (.isub) 1 pc') (k : z_G p l e R s m args below meth c Q Λ Y nL σ lv pc' (.int (x - y) :: rest)) : z_G p l e R s m args below meth c Q Λ Y nL σ lv pc (.int y :: .int x :: rest) := by
  obtain ⟨hd, rfl⟩ := hd
  exact fun H locs ls hP hS hl => lv_isub O.1 O.2.1 hd (k H locs ls hP hS hl)

theorem z_imul (O : z_ok Λ Y p s m args c cc own nL) {x y : Int32} (hd : z_d cc pc (.imul) 1 pc') (k : z_G p l e R s m args below meth c Q Λ Y nL σ lv pc' (.int (x * y) :: rest)) : z_G p l e R s m args below meth c Q Λ Y nL σ lv pc (.int y :: .int x :: rest) := by
  obtain ⟨hd, rfl⟩ := hd
  exact fun H locs ls hP hS hl => lv_imul O.1 O.2.1 hd (k H locs ls hP hS hl)

theorem z_iand (O : z_ok Λ Y p s m args c cc own nL) {x y : Int32} (hd : z_d cc pc (.iand) 1 pc') (k : z_G p l e R s m args below meth c Q Λ Y nL σ lv pc' (.int (x &&& y) :: rest)) : z_G p l e R s m args below meth c Q Λ Y nL σ lv pc (.int y :: .int x :: rest) := by
  obtain ⟨hd, rfl⟩ := hd
  exact fun H locs ls hP hS hl => lv_iand O.1 O.2.1 hd (k H locs ls hP hS hl)

theorem z_ior (O : z_ok Λ Y p s m args c cc own nL) {x y : Int32} (hd : z_d cc pc (.ior) 1 pc') (k : z_G p l e R s m args below meth c Q Λ Y nL σ lv pc' (.int (x ||| y) :: rest)) : z_G p l e R s m args below meth c Q Λ Y nL σ lv pc (.int y :: .int x :: rest) := by
  obtain ⟨hd, rfl⟩ := hd
  exact fun H locs ls hP hS hl => lv_ior O.1 O.2.1 hd (k H locs ls hP hS hl)

theorem z_ixor (O : z_ok Λ Y p s m args c cc own nL) {x y : Int32} (hd : z_d cc pc (.ixor) 1 pc') (k : z_G p l e R s m args below meth c Q Λ Y nL σ lv pc' (.int (x ^^^ y) :: rest)) : z_G p l e R s m args below meth c Q Λ Y nL σ lv pc (.int y :: .int x :: rest) := by
  obtain ⟨hd, rfl⟩ := hd
  exact fun H locs ls hP hS hl => lv_ixor O.1 O.2.1 hd (k H locs ls hP hS hl)

theorem z_ishl (O : z_ok Λ Y p s m args c cc own nL) {x y : Int32} (hd : z_d cc pc (.ishl) 1 pc') (k : z_G p l e R s m args below meth c Q Λ Y nL σ lv pc' (.int (x <<< (y &&& 31)) :: rest)) : z_G p l e R s m args below meth c Q Λ Y nL σ lv pc (.int y :: .int x :: rest) := by
  obtain ⟨hd, rfl⟩ := hd
  exact fun H locs ls hP hS hl => lv_ishl O.1 O.2.1 hd (k H locs ls hP hS hl)

theorem z_ishr (O : z_ok Λ Y p s m args c cc own nL) {x y : Int32} (hd : z_d cc pc (.ishr) 1 pc') (k : z_G p l e R s m args below meth c Q Λ Y nL σ lv pc' (.int (x >>> (y &&& 31)) :: rest)) : z_G p l e R s m args below meth c Q Λ Y nL σ lv pc (.int y :: .int x :: rest) := by
  obtain ⟨hd, rfl⟩ := hd
  exact fun H locs ls hP hS hl => lv_ishr O.1 O.2.1 hd (k H locs ls hP hS hl)

theorem z_idiv (O : z_ok Λ Y p s m args c cc own nL) {x y : Int32} (hd : z_d cc pc (.idiv) 1 pc') (hne : ¬ y = 0) (k : z_G p l e R s m args below meth c Q Λ Y nL σ lv pc' (.int (x / y) :: rest)) : z_G p l e R s m args below meth c Q Λ Y nL σ lv pc (.int y :: .int x :: rest) := by
  obtain ⟨hd, rfl⟩ := hd
  exact fun H locs ls hP hS hl => lv_idiv O.1 O.2.1 hd hne (k H locs ls hP hS hl)

theorem z_irem (O : z_ok Λ Y p s m args c cc own nL) {x y : Int32} (hd : z_d cc pc (.irem) 1 pc') (hne : ¬ y = 0) (k : z_G p l e R s m args below meth c Q Λ Y nL σ lv pc' (.int (x - x / y * y) :: rest)) : z_G p l e R s m args below meth c Q Λ Y nL σ lv pc (.int y :: .int x :: rest) := by
  obtain ⟨hd, rfl⟩ := hd
  exact fun H locs ls hP hS hl => lv_irem O.1 O.2.1 hd hne (k H locs ls hP hS hl)

theorem z_ineg (O : z_ok Λ Y p s m args c cc own nL) {x : Int32} (hd : z_d cc pc (.ineg) 1 pc') (k : z_G p l e R s m args below meth c Q Λ Y nL σ lv pc' (.int (-x) :: rest)) : z_G p l e R s m args below meth c Q Λ Y nL σ lv pc (.int x :: rest) := by
  obtain ⟨hd, rfl⟩ := hd
  exact fun H locs ls hP hS hl => lv_ineg O.1 O.2.1 hd (k H locs ls hP hS hl)

theorem z_ladd (O : z_ok Λ Y p s m args c cc own nL) {x y : Int64} (hd : z_d cc pc (.ladd) 1 pc') (k : z_G p l e R s m args below meth c Q Λ Y nL σ lv pc' (.long (x + y) :: rest)) : z_G p l e R s m args below meth c Q Λ Y nL σ lv pc (.long y :: .long x :: rest) := by
  obtain ⟨hd, rfl⟩ := hd
  exact fun H locs ls hP hS hl => lv_ladd O.1 O.2.1 hd (k H locs ls hP hS hl)

theorem z_lsub (O : z_ok Λ Y p s m args c cc own nL) {x y : Int64} (hd : z_d cc pc (.lsub) 1 pc') (k : z_G p l e R s m args below meth c Q Λ Y nL σ lv pc' (.long (x - y) :: rest)) : z_G p l e R s m args below meth c Q Λ Y nL σ lv pc (.long y :: .long x :: rest) := by
  obtain ⟨hd, rfl⟩ := hd
  exact fun H locs ls hP hS hl => lv_lsub O.1 O.2.1 hd (k H locs ls hP hS hl)

theorem z_lmul (O : z_ok Λ Y p s m args c cc own nL) {x y : Int64} (hd : z_d cc pc (.lmul) 1 pc') (k : z_G p l e R s m args below meth c Q Λ Y nL σ lv pc' (.long (x * y) :: rest)) : z_G p l e R s m args below meth c Q Λ Y nL σ lv pc (.long y :: .long x :: rest) := by
  obtain ⟨hd, rfl⟩ := hd
  exact fun H locs ls hP hS hl => lv_lmul O.1 O.2.1 hd (k H locs ls hP hS hl)

theorem z_land (O : z_ok Λ Y p s m args c cc own nL) {x y : Int64} (hd : z_d cc pc (.land) 1 pc') (k : z_G p l e R s m args below meth c Q Λ Y nL σ lv pc' (.long (x &&& y) :: rest)) : z_G p l e R s m args below meth c Q Λ Y nL σ lv pc (.long y :: .long x :: rest) := by
  obtain ⟨hd, rfl⟩ := hd
  exact fun H locs ls hP hS hl => lv_land O.1 O.2.1 hd (k H locs ls hP hS hl)

theorem z_lor (O : z_ok Λ Y p s m args c cc own nL) {x y : Int64} (hd : z_d cc pc (.lor) 1 pc') (k : z_G p l e R s m args below meth c Q Λ Y nL σ lv pc' (.long (x ||| y) :: rest)) : z_G p l e R s m args below meth c Q Λ Y nL σ lv pc (.long y :: .long x :: rest) := by
  obtain ⟨hd, rfl⟩ := hd
  exact fun H locs ls hP hS hl => lv_lor O.1 O.2.1 hd (k H locs ls hP hS hl)

theorem z_lxor (O : z_ok Λ Y p s m args c cc own nL) {x y : Int64} (hd : z_d cc pc (.lxor) 1 pc') (k : z_G p l e R s m args below meth c Q Λ Y nL σ lv pc' (.long (x ^^^ y) :: rest)) : z_G p l e R s m args below meth c Q Λ Y nL σ lv pc (.long y :: .long x :: rest) := by
  obtain ⟨hd, rfl⟩ := hd
  exact fun H locs ls hP hS hl => lv_lxor O.1 O.2.1 hd (k H locs ls hP hS hl)

theorem z_lneg (O : z_ok Λ Y p s m args c cc own nL) {x : Int64} (hd : z_d cc pc (.lneg) 1 pc') (k : z_G p l e R s m args below meth c Q Λ Y nL σ lv pc' (.long (-x) :: rest)) : z_G p l e R s m args below meth c Q Λ Y nL σ lv pc (.long x :: rest) := by
  obtain ⟨hd, rfl⟩ := hd
  exact fun H locs ls hP hS hl => lv_lneg O.1 O.2.1 hd (k H locs ls hP hS hl)

theorem z_i2l (O : z_ok Λ Y p s m args c cc own nL) {x : Int32} (hd : z_d cc pc (.i2l) 1 pc') (k : z_G p l e R s m args below meth c Q Λ Y nL σ lv pc' (.long x.toInt64 :: rest)) : z_G p l e R s m args below meth c Q Λ Y nL σ lv pc (.int x :: rest) := by
  obtain ⟨hd, rfl⟩ := hd
  exact fun H locs ls hP hS hl => lv_i2l O.1 O.2.1 hd rfl (k H locs ls hP hS hl)

theorem z_l2i (O : z_ok Λ Y p s m args c cc own nL) {x : Int64} (hd : z_d cc pc (.l2i) 1 pc') (k : z_G p l e R s m args below meth c Q Λ Y nL σ lv pc' (.int x.toInt32 :: rest)) : z_G p l e R s m args below meth c Q Λ Y nL σ lv pc (.long x :: rest) := by
  obtain ⟨hd, rfl⟩ := hd
  exact fun H locs ls hP hS hl => lv_l2i O.1 O.2.1 hd rfl (k H locs ls hP hS hl)

theorem z_iushr (O : z_ok Λ Y p s m args c cc own nL) {x y : Int32} (hd : z_d cc pc (.iushr) 1 pc') (k : z_G p l e R s m args below meth c Q Λ Y nL σ lv pc' (.int (x.toUInt32 >>> (y.toUInt32 &&& Int32.toUInt32 31)).toInt32 :: rest)) : z_G p l e R s m args below meth c Q Λ Y nL σ lv pc (.int y :: .int x :: rest) := by
  obtain ⟨hd, rfl⟩ := hd
  exact fun H locs ls hP hS hl => lv_iushr O.1 O.2.1 hd rfl (k H locs ls hP hS hl)

theorem z_lushr (O : z_ok Λ Y p s m args c cc own nL) {x : Int64} {y : Int32} (hd : z_d cc pc (.lushr) 1 pc') (k : z_G p l e R s m args below meth c Q Λ Y nL σ lv pc' (.long (x.toUInt64 >>> (y.toInt64.toUInt64 &&& Int64.toUInt64 63)).toInt64 :: rest)) : z_G p l e R s m args below meth c Q Λ Y nL σ lv pc (.int y :: .long x :: rest) := by
  obtain ⟨hd, rfl⟩ := hd
  exact fun H locs ls hP hS hl => lv_lushr O.1 O.2.1 hd rfl (k H locs ls hP hS hl)

theorem z_lshl (O : z_ok Λ Y p s m args c cc own nL) {x : Int64} {y : Int32} (hd : z_d cc pc (.lshl) 1 pc') (k : z_G p l e R s m args below meth c Q Λ Y nL σ lv pc' (.long (x <<< (y.toInt64 &&& 63)) :: rest)) : z_G p l e R s m args below meth c Q Λ Y nL σ lv pc (.int y :: .long x :: rest) := by
  obtain ⟨hd, rfl⟩ := hd
  exact fun H locs ls hP hS hl => lv_lshl O.1 O.2.1 hd rfl (k H locs ls hP hS hl)

theorem z_lcmp (O : z_ok Λ Y p s m args c cc own nL) {x y : Int64} (hd : z_d cc pc (.lcmp) 1 pc') (k : z_G p l e R s m args below meth c Q Λ Y nL σ lv pc' (.int (lg_cmp x y) :: rest)) : z_G p l e R s m args below meth c Q Λ Y nL σ lv pc (.long y :: .long x :: rest) := by
  obtain ⟨hd, rfl⟩ := hd
  exact fun H locs ls hP hS hl => W.lcmp O.1 O.2.1 hd (k H locs ls hP hS hl)

theorem z_dup (O : z_ok Λ Y p s m args c cc own nL) {va : Value} (hd : z_d cc pc (.dup) 1 pc') (h1 : va.category = 1) (k : z_G p l e R s m args below meth c Q Λ Y nL σ lv pc' (va :: va :: rest)) : z_G p l e R s m args below meth c Q Λ Y nL σ lv pc (va :: rest) := by
  obtain ⟨hd, rfl⟩ := hd
  exact fun H locs ls hP hS hl => lv_dup O.1 O.2.1 hd h1 (k H locs ls hP hS hl)

theorem z_pop (O : z_ok Λ Y p s m args c cc own nL) {va : Value} (hd : z_d cc pc (.pop) 1 pc') (h1 : va.category = 1) (k : z_G p l e R s m args below meth c Q Λ Y nL σ lv pc' rest) : z_G p l e R s m args below meth c Q Λ Y nL σ lv pc (va :: rest) := by
  obtain ⟨hd, rfl⟩ := hd
  exact fun H locs ls hP hS hl => lv_pop O.1 O.2.1 hd h1 (k H locs ls hP hS hl)

theorem z_dup_x1 (O : z_ok Λ Y p s m args c cc own nL) {va vb : Value} (hd : z_d cc pc (.dup_x1) 1 pc') (h1 : va.category = 1) (h2 : vb.category = 1) (k : z_G p l e R s m args below meth c Q Λ Y nL σ lv pc' (va :: vb :: va :: rest)) : z_G p l e R s m args below meth c Q Λ Y nL σ lv pc (va :: vb :: rest) := by
  obtain ⟨hd, rfl⟩ := hd
  exact fun H locs ls hP hS hl => lv_dup_x1 O.1 O.2.1 hd h1 h2 (k H locs ls hP hS hl)

theorem z_dup_x2 (O : z_ok Λ Y p s m args c cc own nL) {va vb vd : Value} (hd : z_d cc pc (.dup_x2) 1 pc') (h1 : va.category = 1) (h2 : vb.category = 1) (h3 : vd.category = 1) (k : z_G p l e R s m args below meth c Q Λ Y nL σ lv pc' (va :: vb :: vd :: va :: rest)) : z_G p l e R s m args below meth c Q Λ Y nL σ lv pc (va :: vb :: vd :: rest) := by
  obtain ⟨hd, rfl⟩ := hd
  exact fun H locs ls hP hS hl => lv_dup_x2 O.1 O.2.1 hd h1 h2 h3 (k H locs ls hP hS hl)

theorem z_dup2_11 (O : z_ok Λ Y p s m args c cc own nL) {va vb : Value} (hd : z_d cc pc (.dup2) 1 pc') (h1 : va.category = 1) (h2 : vb.category = 1) (k : z_G p l e R s m args below meth c Q Λ Y nL σ lv pc' (va :: vb :: va :: vb :: rest)) : z_G p l e R s m args below meth c Q Λ Y nL σ lv pc (va :: vb :: rest) := by
  obtain ⟨hd, rfl⟩ := hd
  exact fun H locs ls hP hS hl => lv_dup2_11 O.1 O.2.1 hd h1 h2 (k H locs ls hP hS hl)

theorem z_dup2_2 (O : z_ok Λ Y p s m args c cc own nL) {va : Value} (hd : z_d cc pc (.dup2) 1 pc') (h1 : va.category = 2) (k : z_G p l e R s m args below meth c Q Λ Y nL σ lv pc' (va :: va :: rest)) : z_G p l e R s m args below meth c Q Λ Y nL σ lv pc (va :: rest) := by
  obtain ⟨hd, rfl⟩ := hd
  exact fun H locs ls hP hS hl => lv_dup2_2 O.1 O.2.1 hd h1 (k H locs ls hP hS hl)

theorem z_if_eq (O : z_ok Λ Y p s m args c cc own nL) {x : Int32} {off : Int} (hd : z_b cc pc (.ifCond .eq off) off pc' tgt) (kt : x = 0 → z_G p l e R s m args below meth c Q Λ Y nL σ lv tgt rest) (kf : ¬ x = 0 → z_G p l e R s m args below meth c Q Λ Y nL σ lv pc' rest) : z_G p l e R s m args below meth c Q Λ Y nL σ lv pc (.int x :: rest) := by
  obtain ⟨hd, rfl, ht⟩ := hd
  exact fun H locs ls hP hS hl => lv_if_eq O.1 O.2.1 hd ht (fun h => kt h H locs ls hP hS hl) (fun h => kf h H locs ls hP hS hl)

theorem z_icmp_eq (O : z_ok Λ Y p s m args c cc own nL) {x y : Int32} {off : Int} (hd : z_b cc pc (.if_icmp .eq off) off pc' tgt) (kt : x = y → z_G p l e R s m args below meth c Q Λ Y nL σ lv tgt rest) (kf : ¬ x = y → z_G p l e R s m args below meth c Q Λ Y nL σ lv pc' rest) : z_G p l e R s m args below meth c Q Λ Y nL σ lv pc (.int y :: .int x :: rest) := by
  obtain ⟨hd, rfl, ht⟩ := hd
  exact fun H locs ls hP hS hl => lv_icmp_eq O.1 O.2.1 hd ht (fun h => kt h H locs ls hP hS hl) (fun h => kf h H locs ls hP hS hl)

theorem z_if_ne (O : z_ok Λ Y p s m args c cc own nL) {x : Int32} {off : Int} (hd : z_b cc pc (.ifCond .ne off) off pc' tgt) (kt : ¬ x = 0 → z_G p l e R s m args below meth c Q Λ Y nL σ lv tgt rest) (kf : x = 0 → z_G p l e R s m args below meth c Q Λ Y nL σ lv pc' rest) : z_G p l e R s m args below meth c Q Λ Y nL σ lv pc (.int x :: rest) := by
  obtain ⟨hd, rfl, ht⟩ := hd
  exact fun H locs ls hP hS hl => lv_if_ne O.1 O.2.1 hd ht (fun h => kt h H locs ls hP hS hl) (fun h => kf h H locs ls hP hS hl)

theorem z_icmp_ne (O : z_ok Λ Y p s m args c cc own nL) {x y : Int32} {off : Int} (hd : z_b cc pc (.if_icmp .ne off) off pc' tgt) (kt : ¬ x = y → z_G p l e R s m args below meth c Q Λ Y nL σ lv tgt rest) (kf : x = y → z_G p l e R s m args below meth c Q Λ Y nL σ lv pc' rest) : z_G p l e R s m args below meth c Q Λ Y nL σ lv pc (.int y :: .int x :: rest) := by
  obtain ⟨hd, rfl, ht⟩ := hd
  exact fun H locs ls hP hS hl => lv_icmp_ne O.1 O.2.1 hd ht (fun h => kt h H locs ls hP hS hl) (fun h => kf h H locs ls hP hS hl)

theorem z_if_lt (O : z_ok Λ Y p s m args c cc own nL) {x : Int32} {off : Int} (hd : z_b cc pc (.ifCond .lt off) off pc' tgt) (kt : x < 0 → z_G p l e R s m args below meth c Q Λ Y nL σ lv tgt rest) (kf : ¬ x < 0 → z_G p l e R s m args below meth c Q Λ Y nL σ lv pc' rest) : z_G p l e R s m args below meth c Q Λ Y nL σ lv pc (.int x :: rest) := by
  obtain ⟨hd, rfl, ht⟩ := hd
  exact fun H locs ls hP hS hl => lv_if_lt O.1 O.2.1 hd ht (fun h => kt h H locs ls hP hS hl) (fun h => kf h H locs ls hP hS hl)

theorem z_icmp_lt (O : z_ok Λ Y p s m args c cc own nL) {x y : Int32} {off : Int} (hd : z_b cc pc (.if_icmp .lt off) off pc' tgt) (kt : x < y → z_G p l e R s m args below meth c Q Λ Y nL σ lv tgt rest) (kf : ¬ x < y → z_G p l e R s m args below meth c Q Λ Y nL σ lv pc' rest) : z_G p l e R s m args below meth c Q Λ Y nL σ lv pc (.int y :: .int x :: rest) := by
  obtain ⟨hd, rfl, ht⟩ := hd
  exact fun H locs ls hP hS hl => lv_icmp_lt O.1 O.2.1 hd ht (fun h => kt h H locs ls hP hS hl) (fun h => kf h H locs ls hP hS hl)

theorem z_if_ge (O : z_ok Λ Y p s m args c cc own nL) {x : Int32} {off : Int} (hd : z_b cc pc (.ifCond .ge off) off pc' tgt) (kt : 0 ≤ x → z_G p l e R s m args below meth c Q Λ Y nL σ lv tgt rest) (kf : ¬ 0 ≤ x → z_G p l e R s m args below meth c Q Λ Y nL σ lv pc' rest) : z_G p l e R s m args below meth c Q Λ Y nL σ lv pc (.int x :: rest) := by
  obtain ⟨hd, rfl, ht⟩ := hd
  exact fun H locs ls hP hS hl => lv_if_ge O.1 O.2.1 hd ht (fun h => kt h H locs ls hP hS hl) (fun h => kf h H locs ls hP hS hl)

theorem z_icmp_ge (O : z_ok Λ Y p s m args c cc own nL) {x y : Int32} {off : Int} (hd : z_b cc pc (.if_icmp .ge off) off pc' tgt) (kt : y ≤ x → z_G p l e R s m args below meth c Q Λ Y nL σ lv tgt rest) (kf : ¬ y ≤ x → z_G p l e R s m args below meth c Q Λ Y nL σ lv pc' rest) : z_G p l e R s m args below meth c Q Λ Y nL σ lv pc (.int y :: .int x :: rest) := by
  obtain ⟨hd, rfl, ht⟩ := hd
  exact fun H locs ls hP hS hl => lv_icmp_ge O.1 O.2.1 hd ht (fun h => kt h H locs ls hP hS hl) (fun h => kf h H locs ls hP hS hl)

theorem z_if_gt (O : z_ok Λ Y p s m args c cc own nL) {x : Int32} {off : Int} (hd : z_b cc pc (.ifCond .gt off) off pc' tgt) (kt : 0 < x → z_G p l e R s m args below meth c Q Λ Y nL σ lv tgt rest) (kf : ¬ 0 < x → z_G p l e R s m args below meth c Q Λ Y nL σ lv pc' rest) : z_G p l e R s m args below meth c Q Λ Y nL σ lv pc (.int x :: rest) := by
  obtain ⟨hd, rfl, ht⟩ := hd
  exact fun H locs ls hP hS hl => lv_if_gt O.1 O.2.1 hd ht (fun h => kt h H locs ls hP hS hl) (fun h => kf h H locs ls hP hS hl)

theorem z_icmp_gt (O : z_ok Λ Y p s m args c cc own nL) {x y : Int32} {off : Int} (hd : z_b cc pc (.if_icmp .gt off) off pc' tgt) (kt : y < x → z_G p l e R s m args below meth c Q Λ Y nL σ lv tgt rest) (kf : ¬ y < x → z_G p l e R s m args below meth c Q Λ Y nL σ lv pc' rest) : z_G p l e R s m args below meth c Q Λ Y nL σ lv pc (.int y :: .int x :: rest) := by
  obtain ⟨hd, rfl, ht⟩ := hd
  exact fun H locs ls hP hS hl => lv_icmp_gt O.1 O.2.1 hd ht (fun h => kt h H locs ls hP hS hl) (fun h => kf h H locs ls hP hS hl)

theorem z_if_le (O : z_ok Λ Y p s m args c cc own nL) {x : Int32} {off : Int} (hd : z_b cc pc (.ifCond .le off) off pc' tgt) (kt : x ≤ 0 → z_G p l e R s m args below meth c Q Λ Y nL σ lv tgt rest) (kf : ¬ x ≤ 0 → z_G p l e R s m args below meth c Q Λ Y nL σ lv pc' rest) : z_G p l e R s m args below meth c Q Λ Y nL σ lv pc (.int x :: rest) := by
  obtain ⟨hd, rfl, ht⟩ := hd
  exact fun H locs ls hP hS hl => lv_if_le O.1 O.2.1 hd ht (fun h => kt h H locs ls hP hS hl) (fun h => kf h H locs ls hP hS hl)

theorem z_icmp_le (O : z_ok Λ Y p s m args c cc own nL) {x y : Int32} {off : Int} (hd : z_b cc pc (.if_icmp .le off) off pc' tgt) (kt : x ≤ y → z_G p l e R s m args below meth c Q Λ Y nL σ lv tgt rest) (kf : ¬ x ≤ y → z_G p l e R s m args below meth c Q Λ Y nL σ lv pc' rest) : z_G p l e R s m args below meth c Q Λ Y nL σ lv pc (.int y :: .int x :: rest) := by
  obtain ⟨hd, rfl, ht⟩ := hd
  exact fun H locs ls hP hS hl => lv_icmp_le O.1 O.2.1 hd ht (fun h => kt h H locs ls hP hS hl) (fun h => kf h H locs ls hP hS hl)

theorem z_goto (O : z_ok Λ Y p s m args c cc own nL) {off : Int} (hd : z_b cc pc (.goto off) off pc' tgt) (k : z_G p l e R s m args below meth c Q Λ Y nL σ lv tgt rest) : z_G p l e R s m args below meth c Q Λ Y nL σ lv pc rest := by
  obtain ⟨hd, -, ht⟩ := hd
  exact fun H locs ls hP hS hl => lv_goto O.1 O.2.1 hd ht (k H locs ls hP hS hl)

theorem z_topi {x : Int32} (k : ∀ y : Int32, y = x → z_G p l e R s m args below meth c Q Λ Y nL σ lv pc (.int y :: rest)) : z_G p l e R s m args below meth c Q Λ Y nL σ lv pc (.int x :: rest) := k x rfl

theorem z_topl {x : Int64} (k : ∀ y : Int64, y = x → z_G p l e R s m args below meth c Q Λ Y nL σ lv pc (.long y :: rest)) : z_G p l e R s m args below meth c Q Λ Y nL σ lv pc (.long x :: rest) := k x rfl

theorem z_sig {τ : zS} (k : ∀ σ : zS, σ = τ → z_G p l e R s m args below meth c Q Λ Y nL σ lv pc rest) : z_G p l e R s m args below meth c Q Λ Y nL τ lv pc rest := k τ rfl

theorem z_sub (ks : List Nat) (h : lv_pick lv ks = lv') (k : z_G p l e R s m args below meth c Q Λ Y nL σ lv' pc rest) : z_G p l e R s m args below meth c Q Λ Y nL σ lv pc rest := fun H locs ls hP hS hl => k H locs ls hP hS (lv_sub hl ks h)

theorem z_ldc2 (O : z_ok Λ Y p s m args c cc own nL) {index : Nat} {v : Int64} (hw : Cond.constantLong own index v ∈ z_TB) (hd : z_d cc pc (.ldc2_w index) 3 pc') (k : z_G p l e R s m args below meth c Q Λ Y nL σ lv pc' (.long v :: rest)) : z_G p l e R s m args below meth c Q Λ Y nL σ lv pc rest := by
  obtain ⟨hd, rfl⟩ := hd
  exact fun H locs ls hP hS hl => lv_ldc2 O.1 O.2.1 O.2.2.2.1 (O.2.2.2.2.1 _ hw) hd (k H locs ls hP hS hl)

theorem z_ldcw (O : z_ok Λ Y p s m args c cc own nL) {index : Nat} {v : Int32} (hw : Cond.constant own index v ∈ z_TB) (hd : z_d cc pc (.ldc_w index) 3 pc') (k : z_G p l e R s m args below meth c Q Λ Y nL σ lv pc' (.int v :: rest)) : z_G p l e R s m args below meth c Q Λ Y nL σ lv pc rest := by
  obtain ⟨hd, rfl⟩ := hd
  exact fun H locs ls hP hS hl => lv_ldcw O.1 O.2.1 O.2.2.2.1 (O.2.2.2.2.1 _ hw) hd (k H locs ls hP hS hl)

theorem z_tabO (O : z_ok Λ Y p s m args c cc own nL) {dflt lo hi : Int} {offs : Array Int} {len : Nat} {x : Int32} (hd : decode cc pc = .ok (.tableswitch dflt lo hi offs, len)) (h : x.toInt < lo ∨ hi < x.toInt) (ht : (pc : Int) + dflt = (tgt : Int)) (k : z_G p l e R s m args below meth c Q Λ Y nL σ lv tgt rest) : z_G p l e R s m args below meth c Q Λ Y nL σ lv pc (.int x :: rest) := fun H locs ls hP hS hl => lv_tableOut O.1 O.2.1 hd h ht (k H locs ls hP hS hl)

theorem z_tabI (O : z_ok Λ Y p s m args c cc own nL) {dflt lo hi : Int} {offs : Array Int} {len : Nat} {x : Int32} {off : Int} (hd : decode cc pc = .ok (.tableswitch dflt lo hi offs, len)) (h1 : ¬ x.toInt < lo) (h2 : ¬ hi < x.toInt) (ho : offs[(x.toInt - lo).toNat]? = some off) (ht : (pc : Int) + off = (tgt : Int)) (k : z_G p l e R s m args below meth c Q Λ Y nL σ lv tgt rest) : z_G p l e R s m args below meth c Q Λ Y nL σ lv pc (.int x :: rest) := fun H locs ls hP hS hl => lv_tableIn O.1 O.2.1 hd h1 h2 ho ht (k H locs ls hP hS hl)

theorem z_look (O : z_ok Λ Y p s m args c cc own nL) {dflt : Int} {ps : Array (Int × Int)} {len : Nat} {x : Int32} {off : Int} (hd : decode cc pc = .ok (.lookupswitch dflt ps, len)) (hp : (ps.toList.zip (ps.toList.drop 1)).all (fun (a, next) => a.1 < next.1) = true) (ho : Op.lookupswitch.offset ps.toList dflt x.toInt = off) (ht : (pc : Int) + off = (tgt : Int)) (k : z_G p l e R s m args below meth c Q Λ Y nL σ lv tgt rest) : z_G p l e R s m args below meth c Q Λ Y nL σ lv pc (.int x :: rest) := fun H locs ls hP hS hl => lv_lookup O.1 O.2.1 hd hp ho ht (k H locs ls hP hS hl)

end ZROWS
end
section
/-! what lies at a place -/
def z_FI (Λ : zL) (p n : Nat) : Prop := p < Λ.1 ∧ ∀ cs ad f g, Λ.2 cs ad p f g = .inl (cs 0, n, .inl f)
def z_FJ (Λ : zL) (p n : Nat) : Prop := p < Λ.1 ∧ ∀ cs ad f g, Λ.2 cs ad p f g = .inl (cs 1, n, .inr (.inl g))
def z_FZ (Λ : zL) (p n : Nat) : Prop := p < Λ.1 ∧ ∀ cs ad f g, Λ.2 cs ad p f g = .inl (cs 2, n, .inl f)
def z_FO (Λ : zL) (p ci : Nat) (fl : (Nat → Nat) → (Nat → Int32) → List Value) : Prop := p < Λ.1 ∧ ∀ cs ad f g, Λ.2 cs ad p f g = .inr (ci, fl ad f)
def z_FR (Λ : zL) (p t n : Nat) (h : Nat → Nat) : Prop := p < Λ.1 ∧ ∀ cs ad f g, Λ.2 cs ad p f g = .inl (cs t, n, .inr (.inr (.inr (.inr (fun i => if i < n then some (ad (h i)) else none)))))
def z_cb (ci : Nat) (C : String) (T : u_T) (N : Nat) (ty : Nat → FieldType) : Prop := z_cls[ci]? = some (C, T, N) ∧ (∀ w ∈ u_ws C T N, w ∈ z_TB) ∧ (∀ k, k < N → parseFieldDescriptor (T k).2.2.1 = some (ty k)) ∧ (∀ a, a < N → ∀ b, b < N → a ≠ b → (T a).2.1 ≠ (T b).2.1) ∧ ∀ k, k < N → (T k).1 = C
section ZHEAP
variable {p : Program} {l : Launch} {e : Env} {R : Room} {s : State} {m : MethodId} {args : Array Value} {below : List Frame} {meth : Method} {c : Code} {Q : State → Prop} {Λ : zL} {Y : zY} {cc : ByteArray} {own : String} {nL : Nat} {σ : zS} {lv lv' : List (Nat × Value)} {pc pc' tgt : Nat} {rest : List Value}

theorem z_iald (O : z_ok Λ Y p s m args c cc own nL) {q n : Nat} {i : Int32} (hF : z_FI Λ q n) (hin : z_in i n = true) (hd : z_d cc pc .iaload 1 pc') (k : z_G p l e R s m args below meth c Q Λ Y nL σ lv pc' (.int (σ.1 q i.toNatClampNeg) :: rest)) : z_G p l e R s m args below meth c Q Λ Y nL σ lv pc (.int i :: .ref (z_ad Y q) :: rest) := by
  obtain ⟨hd, rfl⟩ := hd
  exact fun H locs ls hP hS hl => va_iald O.1 O.2.1 O.2.2.2.2.2.1 hP q 0 (f := σ.1 q) (by rw [z_wl_get hF.1, hF.2]) rfl (z_in_vp hin) hd (k H locs ls hP hS hl)

theorem z_zald (O : z_ok Λ Y p s m args c cc own nL) {q n : Nat} {i : Int32} (hF : z_FZ Λ q n) (hin : z_in i n = true) (hd : z_d cc pc .baload 1 pc') (k : z_G p l e R s m args below meth c Q Λ Y nL σ lv pc' (.int (σ.1 q i.toNatClampNeg) :: rest)) : z_G p l e R s m args below meth c Q Λ Y nL σ lv pc (.int i :: .ref (z_ad Y q) :: rest) := by
  obtain ⟨hd, rfl⟩ := hd
  exact fun H locs ls hP hS hl => va_zald O.1 O.2.1 O.2.2.2.2.2.1 hP q 2 (f := σ.1 q) (by rw [z_wl_get hF.1, hF.2]) rfl (z_in_vp hin) hd (k H locs ls hP hS hl)

theorem z_lald (O : z_ok Λ Y p s m args c cc own nL) {q n : Nat} {i : Int32} (hF : z_FJ Λ q n) (hin : z_in i n = true) (hd : z_d cc pc .laload 1 pc') (k : z_G p l e R s m args below meth c Q Λ Y nL σ lv pc' (.long (σ.2 q i.toNatClampNeg) :: rest)) : z_G p l e R s m args below meth c Q Λ Y nL σ lv pc (.int i :: .ref (z_ad Y q) :: rest) := by
  obtain ⟨hd, rfl⟩ := hd
  exact fun H locs ls hP hS hl => va_lald O.1 O.2.1 O.2.2.2.2.2.1 hP q 1 (f := σ.2 q) (by rw [z_wl_get hF.1, hF.2]) rfl (z_in_vp hin) hd (k H locs ls hP hS hl)

theorem z_iast (O : z_ok Λ Y p s m args c cc own nL) {q n : Nat} {i x : Int32} (hF : z_FI Λ q n) (hin : z_in i n = true) (hd : z_d cc pc .iastore 1 pc') (k : z_G p l e R s m args below meth c Q Λ Y nL (z_sI σ q i.toNatClampNeg x) lv pc' rest) : z_G p l e R s m args below meth c Q Λ Y nL σ lv pc (.int x :: .int i :: .ref (z_ad Y q) :: rest) := by
  obtain ⟨hd, rfl⟩ := hd
  refine fun H locs ls hP hS hl => va_iast O.1 O.2.1 O.2.2.2.2.2.1 hP (z_D O.2.2.2.2.2.2.2) hS q 0 (f := σ.1 q) (by rw [z_wl_get hF.1, hF.2]) rfl (z_in_vp hin) hd (fun H1 locs1 hP1 hD1 hS1 => k H1 locs1 ls ?_ hS1 hl)
  rw [z_wl_set (τ := z_sI σ q i.toNatClampNeg x) (by rw [hF.2]; unfold z_sI; rw [z_fI_s]) z_fI_o] at hP1
  exact hP1

theorem z_zast (O : z_ok Λ Y p s m args c cc own nL) {q n : Nat} {i x : Int32} (hF : z_FZ Λ q n) (hin : z_in i n = true) (hb : z_bz x = true) (hd : z_d cc pc .bastore 1 pc') (k : z_G p l e R s m args below meth c Q Λ Y nL (z_sI σ q i.toNatClampNeg x) lv pc' rest) : z_G p l e R s m args below meth c Q Λ Y nL σ lv pc (.int x :: .int i :: .ref (z_ad Y q) :: rest) := by
  obtain ⟨hd, rfl⟩ := hd
  have hx : vp_nar .boolean x = x := by unfold vp_nar; rw [z_bz_n hb]
  refine fun H locs ls hP hS hl => va_zast O.1 O.2.1 O.2.2.2.2.2.1 hP (z_D O.2.2.2.2.2.2.2) hS q 2 (f := σ.1 q) (by rw [z_wl_get hF.1, hF.2]) rfl (z_in_vp hin) hd (fun H1 locs1 hP1 hD1 hS1 => k H1 locs1 ls ?_ hS1 hl)
  rw [hx, z_wl_set (τ := z_sI σ q i.toNatClampNeg x) (by rw [hF.2]; unfold z_sI; rw [z_fI_s]) z_fI_o] at hP1
  exact hP1

theorem z_last (O : z_ok Λ Y p s m args c cc own nL) {q n : Nat} {i : Int32} {x : Int64} (hF : z_FJ Λ q n) (hin : z_in i n = true) (hd : z_d cc pc .lastore 1 pc') (k : z_G p l e R s m args below meth c Q Λ Y nL (z_sJ σ q i.toNatClampNeg x) lv pc' rest) : z_G p l e R s m args below meth c Q Λ Y nL σ lv pc (.long x :: .int i :: .ref (z_ad Y q) :: rest) := by
  obtain ⟨hd, rfl⟩ := hd
  refine fun H locs ls hP hS hl => va_last O.1 O.2.1 O.2.2.2.2.2.1 hP (z_D O.2.2.2.2.2.2.2) hS q 1 (f := σ.2 q) (by rw [z_wl_get hF.1, hF.2]) rfl (z_in_vp hin) hd (fun H1 locs1 hP1 hD1 hS1 => k H1 locs1 ls ?_ hS1 hl)
  rw [z_wl_set (τ := z_sJ σ q i.toNatClampNeg x) (by rw [hF.2]; unfold z_sJ; rw [z_fJ_s]) z_fJ_o] at hP1
  exact hP1

theorem z_ilen (O : z_ok Λ Y p s m args c cc own nL) {q n : Nat} {v : Int32} (hF : z_FI Λ q n) (hv : Int32.ofNat n = v) (hd : z_d cc pc .arraylength 1 pc') (k : z_G p l e R s m args below meth c Q Λ Y nL σ lv pc' (.int v :: rest)) : z_G p l e R s m args below meth c Q Λ Y nL σ lv pc (.ref (z_ad Y q) :: rest) := by
  obtain ⟨hd, rfl⟩ := hd
  exact fun H locs ls hP hS hl => va_alen O.1 O.2.1 O.2.2.2.2.2.1 hP q 0 (x := (n, .inl (σ.1 q))) (by rw [z_wl_get hF.1, hF.2]) (ty := .int) rfl hv hd (k H locs ls hP hS hl)

theorem z_llen (O : z_ok Λ Y p s m args c cc own nL) {q n : Nat} {v : Int32} (hF : z_FJ Λ q n) (hv : Int32.ofNat n = v) (hd : z_d cc pc .arraylength 1 pc') (k : z_G p l e R s m args below meth c Q Λ Y nL σ lv pc' (.int v :: rest)) : z_G p l e R s m args below meth c Q Λ Y nL σ lv pc (.ref (z_ad Y q) :: rest) := by
  obtain ⟨hd, rfl⟩ := hd
  exact fun H locs ls hP hS hl => va_alen O.1 O.2.1 O.2.2.2.2.2.1 hP q 1 (x := (n, .inr (.inl (σ.2 q)))) (by rw [z_wl_get hF.1, hF.2]) (ty := .long) rfl hv hd (k H locs ls hP hS hl)

theorem z_aald (O : z_ok Λ Y p s m args c cc own nL) {q t n : Nat} {h : Nat → Nat} {i : Int32} {ty : FieldType} (hF : z_FR Λ q t n h) (ht : (z_tys Y)[t]? = some (Y.2.1 t, ty)) (hty : ty.isReference = true) (hin : z_in i n = true) (hd : z_d cc pc .aaload 1 pc') (k : z_G p l e R s m args below meth c Q Λ Y nL σ lv pc' (.ref (z_ad Y (h i.toNatClampNeg)) :: rest)) : z_G p l e R s m args below meth c Q Λ Y nL σ lv pc (.int i :: .ref (z_ad Y q) :: rest) := by
  obtain ⟨hd, rfl⟩ := hd
  intro H locs ls hP hS hl
  have hvp := z_in_vp hin
  have hlt : i.toNatClampNeg < n := Nat.not_le.mp fun z => hvp (Or.inr z)
  have ha : (z_wl Λ Y σ)[q]? = some (z_ad Y q, .inl (Y.2.1 t, n, .inr (.inr (.inr (.inr (fun i => if i < n then some (z_ad Y (h i)) else none)))))) := by rw [z_wl_get hF.1, hF.2]
  refine W.aald (v := .ref (z_ad Y (h i.toNatClampNeg))) (ty := ty) O.1 O.2.1 (hP q _ ha) ((O.2.2.2.2.2.1.2 t _ ht).1 n (fun j => va_rf (if j < n then some (z_ad Y (h j)) else none))) hty (fun z => by cases z) (by show ¬ (i < 0 ∨ (arrV _ _ _).slots.size ≤ _); rw [arrV_size]; exact hvp) ?_ rfl rfl hd (k H locs ls hP hS hl)
  show (arrV _ _ _).slots[_]? = _
  rw [arrV_read _ _ hlt]
  show some (va_rf (if i.toNatClampNeg < n then some (z_ad Y (h i.toNatClampNeg)) else none)) = _
  rw [if_pos hlt]
  rfl

theorem z_get (O : z_ok Λ Y p s m args c cc own nL) {ci q N index : Nat} {C : String} {T : u_T} {ty : Nat → FieldType} {fl : (Nat → Nat) → (Nat → Int32) → List Value} {v : Value} (B : z_cb ci C T N ty) (hF : z_FO Λ q ci fl) (k : Nat) (hk : k < N) (hw : Cond.fieldLink own index C (T k).2.1 (T k).2.2.1 ∈ z_TB) (hv : (fl (z_ad Y) (σ.1 q))[k]? = some v) (hd : z_d cc pc (.getfield index) 3 pc') (kk : z_G p l e R s m args below meth c Q Λ Y nL σ lv pc' (v :: rest)) : z_G p l e R s m args below meth c Q Λ Y nL σ lv pc (.ref (z_ad Y q) :: rest) := by
  obtain ⟨hd, rfl⟩ := hd
  exact fun H locs ls hP hS hl => va_get (D := Y.1) (ci := ci) (C := C) (T := T) (N := N) O.1 O.2.1 O.2.2.2.2.1 B.2.1 O.2.2.2.1 O.2.2.2.2.2.1 hP q (fs := fl (z_ad Y) (σ.1 q)) (by rw [z_wl_get hF.1, hF.2]) B.1 k hk (O.2.2.2.2.1 _ hw) (fun x h => by rw [B.2.2.2.2 k hk] at h; exact h) hv hd (kk H locs ls hP hS hl)

theorem z_put (O : z_ok Λ Y p s m args c cc own nL) {ci q N index : Nat} {C : String} {T : u_T} {ty : Nat → FieldType} {fl : (Nat → Nat) → (Nat → Int32) → List Value} {v : Int32} (B : z_cb ci C T N ty) (hF : z_FO Λ q ci fl) (k : Nat) (hk : k < N) (hw : Cond.fieldLink own index C (T k).2.1 (T k).2.2.1 ∈ z_TB) (hfin : (T k).2.2.2 = false) (hn : narrow (ty k) (.int v) = .int v) (hft : fits (ty k) (.int v) = true) (hfl : ∀ ad f, k < (fl ad f).length ∧ (fl ad f).set k (.int v) = fl ad (upd f k v)) (hd : z_d cc pc (.putfield index) 3 pc') (kk : z_G p l e R s m args below meth c Q Λ Y nL (z_sI σ q k v) lv pc' rest) : z_G p l e R s m args below meth c Q Λ Y nL σ lv pc (.int v :: .ref (z_ad Y q) :: rest) := by
  obtain ⟨hd, rfl⟩ := hd
  refine fun H locs ls hP hS hl => va_put (D := Y.1) (ci := ci) (C := C) (T := T) (N := N) O.1 O.2.1 O.2.2.2.2.1 B.2.1 ty B.2.2.1 B.2.2.2.1 O.2.2.2.1 O.2.2.2.2.2.1 hP (z_D O.2.2.2.2.2.2.2) hS q (fs := fl (z_ad Y) (σ.1 q)) (by rw [z_wl_get hF.1, hF.2]) B.1 k hk (O.2.2.2.2.1 _ hw) (fun x h => by rw [B.2.2.2.2 k hk] at h; exact h) hfin (B.2.2.1 k hk) hn hft (hfl _ _).1 hd (fun H1 locs1 hP1 hD1 hS1 => kk H1 locs1 ls ?_ hS1 hl)
  rw [(hfl _ _).2, z_wl_set (τ := z_sI σ q k v) (by rw [hF.2]; unfold z_sI; rw [z_fI_s]) z_fI_o] at hP1
  exact hP1

theorem z_gsW (O : z_ok Λ Y p s m args c cc own nL) {index : Nat} (hw : Cond.fieldLink own index RX5 "WITH" "[J" ∈ z_TB) (hd : z_d cc pc (.getstatic index) 3 pc') (k : z_G p l e R s m args below meth c Q Λ Y nL σ lv pc' (.ref Y.2.2.2.1 :: rest)) : z_G p l e R s m args below meth c Q Λ Y nL σ lv pc rest := by
  obtain ⟨hd, rfl⟩ := hd
  exact fun H locs ls hP hS hl => va_gets O.1 O.2.1 O.2.2.2.2.2.2.1.1 hS O.2.2.2.1 (O.2.2.2.2.1 _ hw) (fun _ h => h) hd (k H locs ls hP hS hl)

theorem z_tlW (O : z_ok Λ Y p s m args c cc own nL) {i : Int32} (hin : z_in i 6 = true) (hd : z_d cc pc .laload 1 pc') (k : z_G p l e R s m args below meth c Q Λ Y nL σ lv pc' (.long (z_withL i.toNatClampNeg) :: rest)) : z_G p l e R s m args below meth c Q Λ Y nL σ lv pc (.int i :: .ref Y.2.2.2.1 :: rest) := by
  obtain ⟨hd, rfl⟩ := hd
  exact fun H locs ls hP hS hl => va_tl O.1 O.2.1 O.2.2.2.2.2.2.1.2.1 hS (z_in_vp hin) rfl hd (k H locs ls hP hS hl)

theorem z_gsO (O : z_ok Λ Y p s m args c cc own nL) {index : Nat} (hw : Cond.fieldLink own index RX5 "OF_COUNT" "[J" ∈ z_TB) (hd : z_d cc pc (.getstatic index) 3 pc') (k : z_G p l e R s m args below meth c Q Λ Y nL σ lv pc' (.ref Y.2.2.2.2 :: rest)) : z_G p l e R s m args below meth c Q Λ Y nL σ lv pc rest := by
  obtain ⟨hd, rfl⟩ := hd
  exact fun H locs ls hP hS hl => va_gets O.1 O.2.1 O.2.2.2.2.2.2.1.2.2.1 hS O.2.2.2.1 (O.2.2.2.2.1 _ hw) (fun _ h => h) hd (k H locs ls hP hS hl)

theorem z_tlO (O : z_ok Λ Y p s m args c cc own nL) {i : Int32} (hin : z_in i 7 = true) (hd : z_d cc pc .laload 1 pc') (k : z_G p l e R s m args below meth c Q Λ Y nL σ lv pc' (.long (z_ofcL i.toNatClampNeg) :: rest)) : z_G p l e R s m args below meth c Q Λ Y nL σ lv pc (.int i :: .ref Y.2.2.2.2 :: rest) := by
  obtain ⟨hd, rfl⟩ := hd
  exact fun H locs ls hP hS hl => va_tl O.1 O.2.1 O.2.2.2.2.2.2.1.2.2.2.1 hS (z_in_vp hin) rfl hd (k H locs ls hP hS hl)

theorem z_acpy (O : z_ok Λ Y p s m args c cc own nL) {r index q0 q1 n0 n1 : Nat} {sp dp n : Int32} (hw : Cond.methodLink own index arraycopyName ∈ z_TB) (hnat : Cond.native arraycopyName ∈ z_TB) (hsta : Cond.static arraycopyName ∈ z_TB) (hini : Cond.initialized RJ10 ∈ z_TB) (h0 : z_FI Λ q0 n0) (h1 : z_FI Λ q1 n1) (hg : z_cp sp dp n n0 n1 = true) (hr : 1 ≤ r) (hW : (rest.map fun v => v.category).sum ≤ 8) (hd : z_d cc pc (.invokestatic index) 3 pc') (k : z_G p l e (z_rm r) s m args below meth c Q Λ Y nL (z_fI σ q1 (va_cpy (σ.1 q0) (σ.1 q1) sp.toNatClampNeg dp.toNatClampNeg n.toNatClampNeg)) lv pc' rest) : z_G p l e (z_rm r) s m args below meth c Q Λ Y nL σ lv pc (.int n :: .int dp :: .ref (z_ad Y q1) :: .int sp :: .ref (z_ad Y q0) :: rest) := by
  obtain ⟨hd, rfl⟩ := hd
  obtain ⟨g1, g2, g3, g4, g5⟩ := of_decide_eq_true hg
  have c1 := z_clamp g1
  have c2 := z_clamp g2
  have c3 := z_clamp g3
  refine fun H locs ls hP hS hl => va_copyi O.1 O.2.1 (by rw [O.2.2.1, hl.1]) O.2.2.2.1 (O.2.2.2.2.1 _ hw) (O.2.2.2.2.1 _ hnat) (O.2.2.2.2.1 _ hsta) (O.2.2.2.2.1 _ hini) O.2.2.2.2.2.1 hP (z_D O.2.2.2.2.2.2.2) hS q0 q1 0 0 (f := σ.1 q0) (g := σ.1 q1) (ty := .int) (by rw [z_wl_get h0.1, h0.2]) (by rw [z_wl_get h1.1, h1.2]) rfl rfl rfl (z_nn g1) (z_nn g2) (z_nn g3) (by omega) (by omega) (fun _ _ => rfl) (by show 1 ≤ r; exact hr) (by show _ + (7 + 11) ≤ 64 * r; omega) hd (fun H1 locs1 hP1 hD1 hS1 => k H1 locs1 ls ?_ hS1 hl)
  rw [z_wl_set (τ := z_fI σ q1 (va_cpy (σ.1 q0) (σ.1 q1) sp.toNatClampNeg dp.toNatClampNeg n.toNatClampNeg)) (by rw [h1.2, z_fI_s]) z_fI_o] at hP1
  exact hP1

theorem z_iret (O : z_ok Λ Y p s m args c cc own nL) {v : Int32} {fin : Int32 × zS} (hr : meth.sig.returnType = some .int) (hlk : meth.locks = false) (hd : z_d cc pc .ireturn 1 pc') (hf : some (v, σ) = some fin) : z_G p l e R s m args below meth c (MQ below (z_Qi Λ Y fin) args s 0 0 (z_A Λ Y)) Λ Y nL σ lv pc [.int v] := fun H locs ls hP hS hl => W.iret O.1 O.2.1 hr (fun t ht hW => ⟨⟨v, σ, rfl, Option.some.inj hf, by show va_P _ _ _ t.heap; rw [ht]; exact hP⟩, hS.F ht⟩) hS.2.2 hd.1 hlk

theorem z_lret (O : z_ok Λ Y p s m args c cc own nL) {v : Int64} {fin : Int64 × zS} (hr : meth.sig.returnType = some .long) (hlk : meth.locks = false) (hd : z_d cc pc .lreturn 1 pc') (hf : some (v, σ) = some fin) : z_G p l e R s m args below meth c (MQ below (z_Ql Λ Y fin) args s 0 0 (z_A Λ Y)) Λ Y nL σ lv pc [.long v] := fun H locs ls hP hS hl => W.lret O.1 O.2.1 hr (fun t ht hW => ⟨⟨v, σ, rfl, Option.some.inj hf, by show va_P _ _ _ t.heap; rw [ht]; exact hP⟩, hS.F ht⟩) hS.2.2 hd.1 hlk

theorem z_zret (O : z_ok Λ Y p s m args c cc own nL) {v : Int32} {fin : Int32 × zS} (hr : meth.sig.returnType = some .boolean) (hlk : meth.locks = false) (hn : narrow .boolean (.int v) = .int v) (hd : z_d cc pc .ireturn 1 pc') (hf : some (v, σ) = some fin) : z_G p l e R s m args below meth c (MQ below (z_Qi Λ Y fin) args s 0 0 (z_A Λ Y)) Λ Y nL σ lv pc [.int v] := fun H locs ls hP hS hl => W.zret O.1 O.2.1 hr hn (fun t ht hW => ⟨⟨v, σ, rfl, Option.some.inj hf, by show va_P _ _ _ t.heap; rw [ht]; exact hP⟩, hS.F ht⟩) hS.2.2 hd.1 hlk

theorem z_vret (O : z_ok Λ Y p s m args c cc own nL) {fin : zS} (hr : meth.sig.returnType = none) (hlk : meth.locks = false) (hd : z_d cc pc .return_ 1 pc') (hf : some σ = some fin) : z_G p l e R s m args below meth c (MQ below (z_Qv Λ Y fin) args s 0 0 (z_A Λ Y)) Λ Y nL σ lv pc [] := fun H locs ls hP hS hl => W.vret O.1 O.2.1 hr (fun t ht hW => ⟨⟨σ, rfl, Option.some.inj hf, by show va_P _ _ _ t.heap; rw [ht]; exact hP⟩, hS.F ht⟩) hS.2.2 hd.1 hlk

theorem z_aret (O : z_ok Λ Y p s m args c cc own nL) {q : Nat} {fin : Nat × zS} {rt : FieldType} (hr : meth.sig.returnType = some rt) (hrt : (∃ n, rt = .object n) ∨ ∃ t, rt = .array t) (hlk : meth.locks = false) (hd : z_d cc pc .areturn 1 pc') (hf : some (q, σ) = some fin) : z_G p l e R s m args below meth c (MQ below (z_Qr Λ Y fin) args s 0 0 (z_A Λ Y)) Λ Y nL σ lv pc [.ref (z_ad Y q)] := by
  cases hf
  exact fun H locs ls hP hS hl => W.aret O.1 O.2.1 hr hrt (Or.inr ⟨_, rfl⟩) (fun t ht hW => ⟨⟨σ, _, rfl, rfl, rfl, by show va_P _ _ _ t.heap; rw [ht]; exact hP⟩, hS.F ht⟩) hS.2.2 hd.1 hlk

end ZHEAP

/-! calls -/
def z_ci (y : MethodName) (bytes : ByteArray) (maxL : Nat) (ret : Option FieldType) (n : Nat) : Prop := Cond.code y bytes maxL ret ∈ z_TB ∧ Cond.initialized y.cls ∈ z_TB ∧ (y.cls ≠ "java/lang/invoke/MethodHandle" ∧ y.cls ≠ "java/lang/invoke/VarHandle" ∧ (parseMethodDescriptor y.desc).map (fun d => d.parameters.length) = some n) ∧ maxL ≤ 45
def z_cv (y : MethodName) (bytes : ByteArray) (maxL : Nat) (ret : Option FieldType) (n : Nat) : Prop := z_ci y bytes maxL ret n ∧ Cond.instanceMethod y ∈ z_TB ∧ Cond.selects y.cls y y ∈ z_TB
def z_cs (y : MethodName) (bytes : ByteArray) (maxL : Nat) (ret : Option FieldType) (n : Nat) : Prop := z_ci y bytes maxL ret n ∧ Cond.static y ∈ z_TB
theorem z_gin {y : MethodName} {bytes : ByteArray} {maxL : Nat} {ret : Option FieldType} (h : Cond.code y bytes maxL ret ∈ z_TB) : GoodIn z_TB (Cond.code y bytes maxL ret :: z_TB) := by
  intro w hw
  rcases List.mem_cons.mp hw with rfl | hw
  · exact ⟨h, good_of_word (z_tbg _ h).2⟩
  · exact ⟨hw, good_of_word (z_tbg _ hw).2⟩
section ZCALL
variable {p : Program} {l : Launch} {e : Env} {s : State} {m : MethodId} {args : Array Value} {below : List Frame} {meth : Method} {c : Code} {Q : State → Prop} {Λ : zL} {Y : zY} {cc bytes : ByteArray} {own : String} {nL r r' n maxL index : Nat} {y : MethodName} {ret : Option FieldType} {σ : zS} {lv lv' : List (Nat × Value)} {pc pc' : Nat} {rest st0 As : List Value} {Qc : Array Value → State → Outcome → State → Prop}
theorem z_cB (O : z_ok Λ Y p s m args c cc own nL) (w : z_ci y bytes maxL ret n) (hl : Cond.methodLink own index y ∈ z_TB) (hr : r' + 1 ≤ r) : CallB (z_rm r) s args own index y bytes maxL ret (Cond.code y bytes maxL ret :: z_TB) (z_rm r') 0 0 n :=
  callB_of n O.2.2.2.2.1 (z_gin w.1) rfl rfl rfl (O.2.2.2.2.1 _ w.2.1) (O.2.2.2.2.1 _ hl) w.2.2.1 ⟨hr, by have := w.2.2.2; show 8 + (maxL + 11) + 64 * r' ≤ 64 * r; omega⟩
theorem z_pre {H : Heap} {locs : List Loc} (O : z_ok Λ Y p s m args c cc own nL) (hP : va_P Y.1 z_cls (z_wl Λ Y σ) H) (hS : va_S (z_A Λ Y) s.heap H locs) (av : List Value) : ∀ U : State, U.heap = H → s.WarmedH U.vm → z_Pc Λ Y σ av av.toArray U := fun U hU hW => ⟨rfl, by show va_P _ _ _ U.heap; rw [hU]; exact hP, va_K.moved hW.alike O.2.2.2.2.2.1, z_st_to hW hU hS O.2.2.2.2.2.2.1⟩
theorem z_runV {H : Heap} {locs : List Loc} {ls : Array Slot} {b ci : Nat} {q : vw_C} {fl : (Nat → Nat) → (Nat → Int32) → List Value} (O : z_ok Λ Y p s m args c cc own nL) (hM : Met l y (Cond.code y bytes maxL ret :: z_TB) (z_rm r') (z_Pc Λ Y σ (.ref (z_ad Y b) :: As)) Qc 0 0 (z_A Λ Y)) (w : z_cv y bytes maxL ret n) (hl : Cond.methodLink own index y ∈ z_TB) (hr : r' + 1 ≤ r) (hF : z_FO Λ b ci fl) (hc : z_cls[ci]? = some q) (hq : q.1 = y.cls) (hn : As.length = n) (hst : st0 = As.reverse ++ .ref (z_ad Y b) :: rest) (hW : (rest.map fun v => v.category).sum ≤ 8) (hd : decode cc pc = .ok (.invokevirtual index, 3))
    (hP : va_P Y.1 z_cls (z_wl Λ Y σ) H) (hS : va_S (z_A Λ Y) s.heap H locs) (hls : ls.size = nL) : va_Run p l e (z_rm r) s m args below meth c H locs 0 0 0 0 (F0 m pc ls st0) rest (Qc (Value.ref (z_ad Y b) :: As).toArray) (z_A Λ Y) :=
  va_runV (C := y.cls) ⟨O.1, O.2.1, O.2.2.1, O.2.2.2.1, O.2.2.2.2.1⟩ hM ⟨z_cB O w.1 hl hr, O.2.2.2.2.1 _ w.2.1, O.2.2.2.2.1 _ w.2.2⟩ ⟨z_blind, by rw [← hq]; exact va_recv O.2.2.2.2.2.1 hP hc (q0 := b) (fs := fl (z_ad Y) (σ.1 b)) (by rw [z_wl_get hF.1, hF.2]), z_pre O hP hS _⟩ rfl hn hls hst (lv_room hW) hd ⟨Nat.le_of_ble_eq_true rfl, Nat.le_of_ble_eq_true rfl⟩
theorem z_runS {H : Heap} {locs : List Loc} {ls : Array Slot} (O : z_ok Λ Y p s m args c cc own nL) (hM : Met l y (Cond.code y bytes maxL ret :: z_TB) (z_rm r') (z_Pc Λ Y σ As) Qc 0 0 (z_A Λ Y)) (w : z_cs y bytes maxL ret n) (hl : Cond.methodLink own index y ∈ z_TB) (hr : r' + 1 ≤ r) (hn : As.length = n) (hst : st0 = As.reverse ++ rest) (hW : (rest.map fun v => v.category).sum ≤ 8) (hd : decode cc pc = .ok (.invokestatic index, 3))
    (hP : va_P Y.1 z_cls (z_wl Λ Y σ) H) (hS : va_S (z_A Λ Y) s.heap H locs) (hls : ls.size = nL) : va_Run p l e (z_rm r) s m args below meth c H locs 0 0 0 0 (F0 m pc ls st0) rest (Qc As.toArray) (z_A Λ Y) :=
  va_runS ⟨O.1, O.2.1, O.2.2.1, O.2.2.2.1, O.2.2.2.2.1⟩ hM ⟨z_cB O w.1 hl hr, O.2.2.2.2.1 _ w.2⟩ ⟨z_blind, z_pre O hP hS _⟩ rfl hn hls hst (lv_room hW) hd ⟨Nat.le_of_ble_eq_true rfl, Nat.le_of_ble_eq_true rfl⟩
theorem z_runN {H : Heap} {locs : List Loc} {ls : Array Slot} {host : String} (O : z_ok Λ Y p s m args c cc own nL) (hM : Met l y (Cond.code y bytes maxL ret :: z_TB) (z_rm r') (z_Pc Λ Y σ As) Qc 0 0 (z_A Λ Y)) (w : z_cs y bytes maxL ret n) (hl : Cond.methodLinkNest own index y host ∈ z_nest) (hr : r' + 1 ≤ r) (hn : As.length = n) (hst : st0 = As.reverse ++ rest) (hW : (rest.map fun v => v.category).sum ≤ 8) (hd : decode cc pc = .ok (.invokestatic index, 3))
    (hP : va_P Y.1 z_cls (z_wl Λ Y σ) H) (hS : va_S (z_A Λ Y) s.heap H locs) (hls : ls.size = nL) : va_Run p l e (z_rm r) s m args below meth c H locs 0 0 0 0 (F0 m pc ls st0) rest (Qc As.toArray) (z_A Λ Y) :=
  va_runSN (host := host) ⟨O.1, O.2.1, O.2.2.1, O.2.2.2.1, O.2.2.2.2.1⟩ hM ⟨va_cnB n O.2.2.2.2.1 (z_gin w.1.1) rfl rfl rfl (O.2.2.2.2.2.2.1.2.2.2.2 _ hl) (O.2.2.2.2.1 _ w.1.2.1) w.1.2.2.1 ⟨hr, by have := w.1.2.2.2; show 8 + (maxL + 11) + 64 * r' ≤ 64 * r; omega⟩, O.2.2.2.2.1 _ w.2, trivial⟩ ⟨z_blind, z_pre O hP hS _⟩ rfl hn hls hst (lv_room hW) hd ⟨Nat.le_of_ble_eq_true rfl, Nat.le_of_ble_eq_true rfl⟩

theorem z_callVi {b ci : Nat} {q : vw_C} {fl : (Nat → Nat) → (Nat → Int32) → List Value} {fin : Int32 × zS} (O : z_ok Λ Y p s m args c cc own nL) (hM : Met l y (Cond.code y bytes maxL ret :: z_TB) (z_rm r') (z_Pc Λ Y σ (.ref (z_ad Y b) :: As)) (z_Qi Λ Y fin) 0 0 (z_A Λ Y)) (w : z_cv y bytes maxL ret n) (hl : Cond.methodLink own index y ∈ z_TB) (hr : r' + 1 ≤ r) (hF : z_FO Λ b ci fl) (hc : z_cls[ci]? = some q) (hq : q.1 = y.cls) (hn : As.length = n) (hst : st0 = As.reverse ++ .ref (z_ad Y b) :: rest) (hW : (rest.map fun v => v.category).sum ≤ 8) (hd : z_d cc pc (.invokevirtual index) 3 pc') (k : z_G p l e (z_rm r) s m args below meth c Q Λ Y nL fin.2 lv pc' (.int fin.1 :: rest)) : z_G p l e (z_rm r) s m args below meth c Q Λ Y nL σ lv pc st0 := by
  obtain ⟨hd, rfl⟩ := hd
  intro H locs ls hP hS hl'
  exact va_calli (z_runV O hM w hl hr hF hc hq hn hst hW hd hP hS hl'.1) hS (fun _ _ h => h) (fun _ h => h) (fun r1 u t H1 locs1 ht _ hp hB _ _ hS1 => by
    cases hp
    exact k H1 locs1 ls (by rw [← ht]; exact hB) hS1 hl')

theorem z_callVl {b ci : Nat} {q : vw_C} {fl : (Nat → Nat) → (Nat → Int32) → List Value} {fin : Int64 × zS} (O : z_ok Λ Y p s m args c cc own nL) (hM : Met l y (Cond.code y bytes maxL ret :: z_TB) (z_rm r') (z_Pc Λ Y σ (.ref (z_ad Y b) :: As)) (z_Ql Λ Y fin) 0 0 (z_A Λ Y)) (w : z_cv y bytes maxL ret n) (hl : Cond.methodLink own index y ∈ z_TB) (hr : r' + 1 ≤ r) (hF : z_FO Λ b ci fl) (hc : z_cls[ci]? = some q) (hq : q.1 = y.cls) (hn : As.length = n) (hst : st0 = As.reverse ++ .ref (z_ad Y b) :: rest) (hW : (rest.map fun v => v.category).sum ≤ 8) (hd : z_d cc pc (.invokevirtual index) 3 pc') (k : z_G p l e (z_rm r) s m args below meth c Q Λ Y nL fin.2 lv pc' (.long fin.1 :: rest)) : z_G p l e (z_rm r) s m args below meth c Q Λ Y nL σ lv pc st0 := by
  obtain ⟨hd, rfl⟩ := hd
  intro H locs ls hP hS hl'
  exact va_calll (z_runV O hM w hl hr hF hc hq hn hst hW hd hP hS hl'.1) hS (fun _ _ h => h) (fun _ h => h) (fun r1 u t H1 locs1 ht _ hp hB _ _ hS1 => by
    cases hp
    exact k H1 locs1 ls (by rw [← ht]; exact hB) hS1 hl')

theorem z_callVv {b ci : Nat} {q : vw_C} {fl : (Nat → Nat) → (Nat → Int32) → List Value} {fin : zS} (O : z_ok Λ Y p s m args c cc own nL) (hM : Met l y (Cond.code y bytes maxL ret :: z_TB) (z_rm r') (z_Pc Λ Y σ (.ref (z_ad Y b) :: As)) (z_Qv Λ Y fin) 0 0 (z_A Λ Y)) (w : z_cv y bytes maxL ret n) (hl : Cond.methodLink own index y ∈ z_TB) (hr : r' + 1 ≤ r) (hF : z_FO Λ b ci fl) (hc : z_cls[ci]? = some q) (hq : q.1 = y.cls) (hn : As.length = n) (hst : st0 = As.reverse ++ .ref (z_ad Y b) :: rest) (hW : (rest.map fun v => v.category).sum ≤ 8) (hd : z_d cc pc (.invokevirtual index) 3 pc') (k : z_G p l e (z_rm r) s m args below meth c Q Λ Y nL fin lv pc' rest) : z_G p l e (z_rm r) s m args below meth c Q Λ Y nL σ lv pc st0 := by
  obtain ⟨hd, rfl⟩ := hd
  intro H locs ls hP hS hl'
  exact va_callv (z_runV O hM w hl hr hF hc hq hn hst hW hd hP hS hl'.1) hS (fun _ _ h => h) (fun _ h => h) (fun u t H1 locs1 ht _ hp hB _ _ hS1 => by
    cases hp
    exact k H1 locs1 ls (by rw [← ht]; exact hB) hS1 hl')

theorem z_callVr {b ci : Nat} {q : vw_C} {fl : (Nat → Nat) → (Nat → Int32) → List Value} {fin : Nat × zS} (O : z_ok Λ Y p s m args c cc own nL) (hM : Met l y (Cond.code y bytes maxL ret :: z_TB) (z_rm r') (z_Pc Λ Y σ (.ref (z_ad Y b) :: As)) (z_Qr Λ Y fin) 0 0 (z_A Λ Y)) (w : z_cv y bytes maxL ret n) (hl : Cond.methodLink own index y ∈ z_TB) (hr : r' + 1 ≤ r) (hF : z_FO Λ b ci fl) (hc : z_cls[ci]? = some q) (hq : q.1 = y.cls) (hn : As.length = n) (hst : st0 = As.reverse ++ .ref (z_ad Y b) :: rest) (hW : (rest.map fun v => v.category).sum ≤ 8) (hd : z_d cc pc (.invokevirtual index) 3 pc') (k : z_G p l e (z_rm r) s m args below meth c Q Λ Y nL fin.2 lv pc' (.ref (z_ad Y fin.1) :: rest)) : z_G p l e (z_rm r) s m args below meth c Q Λ Y nL σ lv pc st0 := by
  obtain ⟨hd, rfl⟩ := hd
  intro H locs ls hP hS hl'
  exact va_callr (z_runV O hM w hl hr hF hc hq hn hst hW hd hP hS hl'.1) hS (fun _ _ h => h) (fun _ h => h) (fun u ra t H1 locs1 ht _ hp hB _ _ hS1 => by
    obtain ⟨rfl, hB⟩ := hB
    cases hp
    exact k H1 locs1 ls (by rw [← ht]; exact hB) hS1 hl')

theorem z_callSi  {fin : Int32 × zS} (O : z_ok Λ Y p s m args c cc own nL) (hM : Met l y (Cond.code y bytes maxL ret :: z_TB) (z_rm r') (z_Pc Λ Y σ As) (z_Qi Λ Y fin) 0 0 (z_A Λ Y)) (w : z_cs y bytes maxL ret n) (hl : Cond.methodLink own index y ∈ z_TB) (hr : r' + 1 ≤ r) (hn : As.length = n) (hst : st0 = As.reverse ++ rest) (hW : (rest.map fun v => v.category).sum ≤ 8) (hd : z_d cc pc (.invokestatic index) 3 pc') (k : z_G p l e (z_rm r) s m args below meth c Q Λ Y nL fin.2 lv pc' (.int fin.1 :: rest)) : z_G p l e (z_rm r) s m args below meth c Q Λ Y nL σ lv pc st0 := by
  obtain ⟨hd, rfl⟩ := hd
  intro H locs ls hP hS hl'
  exact va_calli (z_runS O hM w hl hr hn hst hW hd hP hS hl'.1) hS (fun _ _ h => h) (fun _ h => h) (fun r1 u t H1 locs1 ht _ hp hB _ _ hS1 => by
    cases hp
    exact k H1 locs1 ls (by rw [← ht]; exact hB) hS1 hl')

theorem z_callSl  {fin : Int64 × zS} (O : z_ok Λ Y p s m args c cc own nL) (hM : Met l y (Cond.code y bytes maxL ret :: z_TB) (z_rm r') (z_Pc Λ Y σ As) (z_Ql Λ Y fin) 0 0 (z_A Λ Y)) (w : z_cs y bytes maxL ret n) (hl : Cond.methodLink own index y ∈ z_TB) (hr : r' + 1 ≤ r) (hn : As.length = n) (hst : st0 = As.reverse ++ rest) (hW : (rest.map fun v => v.category).sum ≤ 8) (hd : z_d cc pc (.invokestatic index) 3 pc') (k : z_G p l e (z_rm r) s m args below meth c Q Λ Y nL fin.2 lv pc' (.long fin.1 :: rest)) : z_G p l e (z_rm r) s m args below meth c Q Λ Y nL σ lv pc st0 := by
  obtain ⟨hd, rfl⟩ := hd
  intro H locs ls hP hS hl'
  exact va_calll (z_runS O hM w hl hr hn hst hW hd hP hS hl'.1) hS (fun _ _ h => h) (fun _ h => h) (fun r1 u t H1 locs1 ht _ hp hB _ _ hS1 => by
    cases hp
    exact k H1 locs1 ls (by rw [← ht]; exact hB) hS1 hl')

theorem z_callSv  {fin : zS} (O : z_ok Λ Y p s m args c cc own nL) (hM : Met l y (Cond.code y bytes maxL ret :: z_TB) (z_rm r') (z_Pc Λ Y σ As) (z_Qv Λ Y fin) 0 0 (z_A Λ Y)) (w : z_cs y bytes maxL ret n) (hl : Cond.methodLink own index y ∈ z_TB) (hr : r' + 1 ≤ r) (hn : As.length = n) (hst : st0 = As.reverse ++ rest) (hW : (rest.map fun v => v.category).sum ≤ 8) (hd : z_d cc pc (.invokestatic index) 3 pc') (k : z_G p l e (z_rm r) s m args below meth c Q Λ Y nL fin lv pc' rest) : z_G p l e (z_rm r) s m args below meth c Q Λ Y nL σ lv pc st0 := by
  obtain ⟨hd, rfl⟩ := hd
  intro H locs ls hP hS hl'
  exact va_callv (z_runS O hM w hl hr hn hst hW hd hP hS hl'.1) hS (fun _ _ h => h) (fun _ h => h) (fun u t H1 locs1 ht _ hp hB _ _ hS1 => by
    cases hp
    exact k H1 locs1 ls (by rw [← ht]; exact hB) hS1 hl')

theorem z_callSr  {fin : Nat × zS} (O : z_ok Λ Y p s m args c cc own nL) (hM : Met l y (Cond.code y bytes maxL ret :: z_TB) (z_rm r') (z_Pc Λ Y σ As) (z_Qr Λ Y fin) 0 0 (z_A Λ Y)) (w : z_cs y bytes maxL ret n) (hl : Cond.methodLink own index y ∈ z_TB) (hr : r' + 1 ≤ r) (hn : As.length = n) (hst : st0 = As.reverse ++ rest) (hW : (rest.map fun v => v.category).sum ≤ 8) (hd : z_d cc pc (.invokestatic index) 3 pc') (k : z_G p l e (z_rm r) s m args below meth c Q Λ Y nL fin.2 lv pc' (.ref (z_ad Y fin.1) :: rest)) : z_G p l e (z_rm r) s m args below meth c Q Λ Y nL σ lv pc st0 := by
  obtain ⟨hd, rfl⟩ := hd
  intro H locs ls hP hS hl'
  exact va_callr (z_runS O hM w hl hr hn hst hW hd hP hS hl'.1) hS (fun _ _ h => h) (fun _ h => h) (fun u ra t H1 locs1 ht _ hp hB _ _ hS1 => by
    obtain ⟨rfl, hB⟩ := hB
    cases hp
    exact k H1 locs1 ls (by rw [← ht]; exact hB) hS1 hl')

theorem z_callNi {host : String} {fin : Int32 × zS} (O : z_ok Λ Y p s m args c cc own nL) (hM : Met l y (Cond.code y bytes maxL ret :: z_TB) (z_rm r') (z_Pc Λ Y σ As) (z_Qi Λ Y fin) 0 0 (z_A Λ Y)) (w : z_cs y bytes maxL ret n) (hl : Cond.methodLinkNest own index y host ∈ z_nest) (hr : r' + 1 ≤ r) (hn : As.length = n) (hst : st0 = As.reverse ++ rest) (hW : (rest.map fun v => v.category).sum ≤ 8) (hd : z_d cc pc (.invokestatic index) 3 pc') (k : z_G p l e (z_rm r) s m args below meth c Q Λ Y nL fin.2 lv pc' (.int fin.1 :: rest)) : z_G p l e (z_rm r) s m args below meth c Q Λ Y nL σ lv pc st0 := by
  obtain ⟨hd, rfl⟩ := hd
  intro H locs ls hP hS hl'
  exact va_calli (z_runN O hM w hl hr hn hst hW hd hP hS hl'.1) hS (fun _ _ h => h) (fun _ h => h) (fun r1 u t H1 locs1 ht _ hp hB _ _ hS1 => by
    cases hp
    exact k H1 locs1 ls (by rw [← ht]; exact hB) hS1 hl')

theorem z_callNl {host : String} {fin : Int64 × zS} (O : z_ok Λ Y p s m args c cc own nL) (hM : Met l y (Cond.code y bytes maxL ret :: z_TB) (z_rm r') (z_Pc Λ Y σ As) (z_Ql Λ Y fin) 0 0 (z_A Λ Y)) (w : z_cs y bytes maxL ret n) (hl : Cond.methodLinkNest own index y host ∈ z_nest) (hr : r' + 1 ≤ r) (hn : As.length = n) (hst : st0 = As.reverse ++ rest) (hW : (rest.map fun v => v.category).sum ≤ 8) (hd : z_d cc pc (.invokestatic index) 3 pc') (k : z_G p l e (z_rm r) s m args below meth c Q Λ Y nL fin.2 lv pc' (.long fin.1 :: rest)) : z_G p l e (z_rm r) s m args below meth c Q Λ Y nL σ lv pc st0 := by
  obtain ⟨hd, rfl⟩ := hd
  intro H locs ls hP hS hl'
  exact va_calll (z_runN O hM w hl hr hn hst hW hd hP hS hl'.1) hS (fun _ _ h => h) (fun _ h => h) (fun r1 u t H1 locs1 ht _ hp hB _ _ hS1 => by
    cases hp
    exact k H1 locs1 ls (by rw [← ht]; exact hB) hS1 hl')

theorem z_callNv {host : String} {fin : zS} (O : z_ok Λ Y p s m args c cc own nL) (hM : Met l y (Cond.code y bytes maxL ret :: z_TB) (z_rm r') (z_Pc Λ Y σ As) (z_Qv Λ Y fin) 0 0 (z_A Λ Y)) (w : z_cs y bytes maxL ret n) (hl : Cond.methodLinkNest own index y host ∈ z_nest) (hr : r' + 1 ≤ r) (hn : As.length = n) (hst : st0 = As.reverse ++ rest) (hW : (rest.map fun v => v.category).sum ≤ 8) (hd : z_d cc pc (.invokestatic index) 3 pc') (k : z_G p l e (z_rm r) s m args below meth c Q Λ Y nL fin lv pc' rest) : z_G p l e (z_rm r) s m args below meth c Q Λ Y nL σ lv pc st0 := by
  obtain ⟨hd, rfl⟩ := hd
  intro H locs ls hP hS hl'
  exact va_callv (z_runN O hM w hl hr hn hst hW hd hP hS hl'.1) hS (fun _ _ h => h) (fun _ h => h) (fun u t H1 locs1 ht _ hp hB _ _ hS1 => by
    cases hp
    exact k H1 locs1 ls (by rw [← ht]; exact hB) hS1 hl')

theorem z_callNr {host : String} {fin : Nat × zS} (O : z_ok Λ Y p s m args c cc own nL) (hM : Met l y (Cond.code y bytes maxL ret :: z_TB) (z_rm r') (z_Pc Λ Y σ As) (z_Qr Λ Y fin) 0 0 (z_A Λ Y)) (w : z_cs y bytes maxL ret n) (hl : Cond.methodLinkNest own index y host ∈ z_nest) (hr : r' + 1 ≤ r) (hn : As.length = n) (hst : st0 = As.reverse ++ rest) (hW : (rest.map fun v => v.category).sum ≤ 8) (hd : z_d cc pc (.invokestatic index) 3 pc') (k : z_G p l e (z_rm r) s m args below meth c Q Λ Y nL fin.2 lv pc' (.ref (z_ad Y fin.1) :: rest)) : z_G p l e (z_rm r) s m args below meth c Q Λ Y nL σ lv pc st0 := by
  obtain ⟨hd, rfl⟩ := hd
  intro H locs ls hP hS hl'
  exact va_callr (z_runN O hM w hl hr hn hst hW hd hP hS hl'.1) hS (fun _ _ h => h) (fun _ h => h) (fun u ra t H1 locs1 ht _ hp hB _ _ hS1 => by
    obtain ⟨rfl, hB⟩ := hB
    cases hp
    exact k H1 locs1 ls (by rw [← ht]; exact hB) hS1 hl')

end ZCALL
end
section
theorem tl_0_0 : u_lay RX0 TX0 0 ∈ z_TB := z_t1 (i := 121) (by decide +kernel) rfl
theorem tl_0_1 : u_lay RX0 TX0 1 ∈ z_TB := z_t1 (i := 123) (by decide +kernel) rfl
theorem tl_0_2 : u_lay RX0 TX0 2 ∈ z_TB := z_t1 (i := 125) (by decide +kernel) rfl
theorem tl_0_3 : u_lay RX0 TX0 3 ∈ z_TB := z_t1 (i := 127) (by decide +kernel) rfl
theorem z_u0 : ∀ w ∈ u_ws RX0 TX0 4, w ∈ z_TB := by
  intro w hw
  obtain ⟨k, hk, rfl⟩ := List.mem_map.mp hw
  have hk := List.mem_range.mp hk
  match k, hk with
  | 0, _ => exact tl_0_0
  | 1, _ => exact tl_0_1
  | 2, _ => exact tl_0_2
  | 3, _ => exact tl_0_3
  | k + 4, h => exact absurd h (by omega)
theorem z_cb0 : z_cb 0 RX0 TX0 4 tyX0 := ⟨rfl, z_u0, tyX0_ok, nmX0, by decide +kernel⟩
theorem tl_1_0 : u_lay RX1 TX1 0 ∈ z_TB := z_t1 (i := 51) (by decide +kernel) rfl
theorem tl_1_1 : u_lay RX1 TX1 1 ∈ z_TB := z_t1 (i := 53) (by decide +kernel) rfl
theorem tl_1_2 : u_lay RX1 TX1 2 ∈ z_TB := z_t1 (i := 55) (by decide +kernel) rfl
theorem z_u1 : ∀ w ∈ u_ws RX1 TX1 3, w ∈ z_TB := by
  intro w hw
  obtain ⟨k, hk, rfl⟩ := List.mem_map.mp hw
  have hk := List.mem_range.mp hk
  match k, hk with
  | 0, _ => exact tl_1_0
  | 1, _ => exact tl_1_1
  | 2, _ => exact tl_1_2
  | k + 3, h => exact absurd h (by omega)
theorem z_cb1 : z_cb 1 RX1 TX1 3 tyX1 := ⟨rfl, z_u1, tyX1_ok, nmX1, by decide +kernel⟩
theorem tl_2_0 : u_lay RX2 TX2 0 ∈ z_TB := z_t1 (i := 92) (by decide +kernel) rfl
theorem tl_2_1 : u_lay RX2 TX2 1 ∈ z_TB := z_t1 (i := 94) (by decide +kernel) rfl
theorem tl_2_2 : u_lay RX2 TX2 2 ∈ z_TB := z_t1 (i := 96) (by decide +kernel) rfl
theorem tl_2_3 : u_lay RX2 TX2 3 ∈ z_TB := z_t1 (i := 98) (by decide +kernel) rfl
theorem tl_2_4 : u_lay RX2 TX2 4 ∈ z_TB := z_t1 (i := 100) (by decide +kernel) rfl
theorem tl_2_5 : u_lay RX2 TX2 5 ∈ z_TB := z_t1 (i := 102) (by decide +kernel) rfl
theorem tl_2_6 : u_lay RX2 TX2 6 ∈ z_TB := z_t1 (i := 104) (by decide +kernel) rfl
theorem z_u2 : ∀ w ∈ u_ws RX2 TX2 7, w ∈ z_TB := by
  intro w hw
  obtain ⟨k, hk, rfl⟩ := List.mem_map.mp hw
  have hk := List.mem_range.mp hk
  match k, hk with
  | 0, _ => exact tl_2_0
  | 1, _ => exact tl_2_1
  | 2, _ => exact tl_2_2
  | 3, _ => exact tl_2_3
  | 4, _ => exact tl_2_4
  | 5, _ => exact tl_2_5
  | 6, _ => exact tl_2_6
  | k + 7, h => exact absurd h (by omega)
theorem z_cb2 : z_cb 2 RX2 TX2 7 tyX2 := ⟨rfl, z_u2, tyX2_ok, nmX2, by decide +kernel⟩
theorem tl_3_0 : u_lay RX3 TX3 0 ∈ z_TB := z_t1 (i := 143) (by decide +kernel) rfl
theorem tl_3_1 : u_lay RX3 TX3 1 ∈ z_TB := z_t1 (i := 145) (by decide +kernel) rfl
theorem tl_3_2 : u_lay RX3 TX3 2 ∈ z_TB := z_t1 (i := 147) (by decide +kernel) rfl
theorem z_u3 : ∀ w ∈ u_ws RX3 TX3 3, w ∈ z_TB := by
  intro w hw
  obtain ⟨k, hk, rfl⟩ := List.mem_map.mp hw
  have hk := List.mem_range.mp hk
  match k, hk with
  | 0, _ => exact tl_3_0
  | 1, _ => exact tl_3_1
  | 2, _ => exact tl_3_2
  | k + 3, h => exact absurd h (by omega)
theorem z_cb3 : z_cb 3 RX3 TX3 3 tyX3 := ⟨rfl, z_u3, tyX3_ok, nmX3, by decide +kernel⟩
theorem tl_4_0 : u_lay RX4 TX4 0 ∈ z_TB := z_t1 (i := 65) (by decide +kernel) rfl
theorem tl_4_1 : u_lay RX4 TX4 1 ∈ z_TB := z_t1 (i := 67) (by decide +kernel) rfl
theorem tl_4_2 : u_lay RX4 TX4 2 ∈ z_TB := z_t1 (i := 69) (by decide +kernel) rfl
theorem z_u4 : ∀ w ∈ u_ws RX4 TX4 3, w ∈ z_TB := by
  intro w hw
  obtain ⟨k, hk, rfl⟩ := List.mem_map.mp hw
  have hk := List.mem_range.mp hk
  match k, hk with
  | 0, _ => exact tl_4_0
  | 1, _ => exact tl_4_1
  | 2, _ => exact tl_4_2
  | k + 3, h => exact absurd h (by omega)
theorem z_cb4 : z_cb 4 RX4 TX4 3 tyX4 := ⟨rfl, z_u4, tyX4_ok, nmX4, by decide +kernel⟩
theorem tl_5_0 : u_lay RX5 TX5 0 ∈ z_TB := z_t1 (i := 208) (by decide +kernel) rfl
theorem tl_5_1 : u_lay RX5 TX5 1 ∈ z_TB := z_t1 (i := 210) (by decide +kernel) rfl
theorem z_u5 : ∀ w ∈ u_ws RX5 TX5 2, w ∈ z_TB := by
  intro w hw
  obtain ⟨k, hk, rfl⟩ := List.mem_map.mp hw
  have hk := List.mem_range.mp hk
  match k, hk with
  | 0, _ => exact tl_5_0
  | 1, _ => exact tl_5_1
  | k + 2, h => exact absurd h (by omega)
theorem z_cb5 : z_cb 5 RX5 TX5 2 tyX5 := ⟨rfl, z_u5, tyX5_ok, nmX5, by decide +kernel⟩
theorem tl_6_0 : u_lay RX6 TX6 0 ∈ z_TB := z_t1 (i := 177) (by decide +kernel) rfl
theorem tl_6_1 : u_lay RX6 TX6 1 ∈ z_TB := z_t1 (i := 179) (by decide +kernel) rfl
theorem tl_6_2 : u_lay RX6 TX6 2 ∈ z_TB := z_t1 (i := 181) (by decide +kernel) rfl
theorem tl_6_3 : u_lay RX6 TX6 3 ∈ z_TB := z_t1 (i := 183) (by decide +kernel) rfl
theorem tl_6_4 : u_lay RX6 TX6 4 ∈ z_TB := z_t1 (i := 185) (by decide +kernel) rfl
theorem tl_6_5 : u_lay RX6 TX6 5 ∈ z_TB := z_t1 (i := 187) (by decide +kernel) rfl
theorem tl_6_6 : u_lay RX6 TX6 6 ∈ z_TB := z_t1 (i := 189) (by decide +kernel) rfl
theorem tl_6_7 : u_lay RX6 TX6 7 ∈ z_TB := z_t1 (i := 191) (by decide +kernel) rfl
theorem tl_6_8 : u_lay RX6 TX6 8 ∈ z_TB := z_t1 (i := 193) (by decide +kernel) rfl
theorem tl_6_9 : u_lay RX6 TX6 9 ∈ z_TB := z_t1 (i := 195) (by decide +kernel) rfl
theorem z_u6 : ∀ w ∈ u_ws RX6 TX6 10, w ∈ z_TB := by
  intro w hw
  obtain ⟨k, hk, rfl⟩ := List.mem_map.mp hw
  have hk := List.mem_range.mp hk
  match k, hk with
  | 0, _ => exact tl_6_0
  | 1, _ => exact tl_6_1
  | 2, _ => exact tl_6_2
  | 3, _ => exact tl_6_3
  | 4, _ => exact tl_6_4
  | 5, _ => exact tl_6_5
  | 6, _ => exact tl_6_6
  | 7, _ => exact tl_6_7
  | 8, _ => exact tl_6_8
  | 9, _ => exact tl_6_9
  | k + 10, h => exact absurd h (by omega)
theorem z_cb6 : z_cb 6 RX6 TX6 10 tyX6 := ⟨rfl, z_u6, tyX6_ok, nmX6, by decide +kernel⟩
theorem tl_7_0 : u_lay RX7 TX7 0 ∈ z_TB := z_t1 (i := 224) (by decide +kernel) rfl
theorem tl_7_1 : u_lay RX7 TX7 1 ∈ z_TB := z_t1 (i := 226) (by decide +kernel) rfl
theorem tl_7_2 : u_lay RX7 TX7 2 ∈ z_TB := z_t1 (i := 228) (by decide +kernel) rfl
theorem tl_7_3 : u_lay RX7 TX7 3 ∈ z_TB := z_t1 (i := 230) (by decide +kernel) rfl
theorem tl_7_4 : u_lay RX7 TX7 4 ∈ z_TB := z_t1 (i := 232) (by decide +kernel) rfl
theorem tl_7_5 : u_lay RX7 TX7 5 ∈ z_TB := z_t1 (i := 234) (by decide +kernel) rfl
theorem tl_7_6 : u_lay RX7 TX7 6 ∈ z_TB := z_t1 (i := 236) (by decide +kernel) rfl
theorem tl_7_7 : u_lay RX7 TX7 7 ∈ z_TB := z_t1 (i := 238) (by decide +kernel) rfl
theorem tl_7_8 : u_lay RX7 TX7 8 ∈ z_TB := z_t2 (i := 0) (by decide +kernel) rfl
theorem tl_7_9 : u_lay RX7 TX7 9 ∈ z_TB := z_t2 (i := 2) (by decide +kernel) rfl
theorem tl_7_10 : u_lay RX7 TX7 10 ∈ z_TB := z_t2 (i := 4) (by decide +kernel) rfl
theorem z_u7 : ∀ w ∈ u_ws RX7 TX7 11, w ∈ z_TB := by
  intro w hw
  obtain ⟨k, hk, rfl⟩ := List.mem_map.mp hw
  have hk := List.mem_range.mp hk
  match k, hk with
  | 0, _ => exact tl_7_0
  | 1, _ => exact tl_7_1
  | 2, _ => exact tl_7_2
  | 3, _ => exact tl_7_3
  | 4, _ => exact tl_7_4
  | 5, _ => exact tl_7_5
  | 6, _ => exact tl_7_6
  | 7, _ => exact tl_7_7
  | 8, _ => exact tl_7_8
  | 9, _ => exact tl_7_9
  | 10, _ => exact tl_7_10
  | k + 11, h => exact absurd h (by omega)
theorem z_cb7 : z_cb 7 RX7 TX7 11 tyX7 := ⟨rfl, z_u7, tyX7_ok, nmX7, by decide +kernel⟩
theorem tl_8_0 : u_lay RX8 TX8 0 ∈ z_TB := z_t4 (i := 68) (by decide +kernel) rfl
theorem tl_8_1 : u_lay RX8 TX8 1 ∈ z_TB := z_t4 (i := 70) (by decide +kernel) rfl
theorem tl_8_2 : u_lay RX8 TX8 2 ∈ z_TB := z_t4 (i := 72) (by decide +kernel) rfl
theorem tl_8_3 : u_lay RX8 TX8 3 ∈ z_TB := z_t4 (i := 74) (by decide +kernel) rfl
theorem tl_8_4 : u_lay RX8 TX8 4 ∈ z_TB := z_t4 (i := 76) (by decide +kernel) rfl
theorem tl_8_5 : u_lay RX8 TX8 5 ∈ z_TB := z_t4 (i := 78) (by decide +kernel) rfl
theorem tl_8_6 : u_lay RX8 TX8 6 ∈ z_TB := z_t4 (i := 80) (by decide +kernel) rfl
theorem tl_8_7 : u_lay RX8 TX8 7 ∈ z_TB := z_t4 (i := 82) (by decide +kernel) rfl
theorem tl_8_8 : u_lay RX8 TX8 8 ∈ z_TB := z_t4 (i := 84) (by decide +kernel) rfl
theorem tl_8_9 : u_lay RX8 TX8 9 ∈ z_TB := z_t4 (i := 86) (by decide +kernel) rfl
theorem tl_8_10 : u_lay RX8 TX8 10 ∈ z_TB := z_t4 (i := 88) (by decide +kernel) rfl
theorem tl_8_11 : u_lay RX8 TX8 11 ∈ z_TB := z_t4 (i := 90) (by decide +kernel) rfl
theorem tl_8_12 : u_lay RX8 TX8 12 ∈ z_TB := z_t4 (i := 92) (by decide +kernel) rfl
theorem tl_8_13 : u_lay RX8 TX8 13 ∈ z_TB := z_t4 (i := 94) (by decide +kernel) rfl
theorem tl_8_14 : u_lay RX8 TX8 14 ∈ z_TB := z_t4 (i := 96) (by decide +kernel) rfl
theorem tl_8_15 : u_lay RX8 TX8 15 ∈ z_TB := z_t4 (i := 98) (by decide +kernel) rfl
theorem tl_8_16 : u_lay RX8 TX8 16 ∈ z_TB := z_t4 (i := 100) (by decide +kernel) rfl
theorem tl_8_17 : u_lay RX8 TX8 17 ∈ z_TB := z_t4 (i := 102) (by decide +kernel) rfl
theorem tl_8_18 : u_lay RX8 TX8 18 ∈ z_TB := z_t4 (i := 104) (by decide +kernel) rfl
theorem tl_8_19 : u_lay RX8 TX8 19 ∈ z_TB := z_t4 (i := 106) (by decide +kernel) rfl
theorem tl_8_20 : u_lay RX8 TX8 20 ∈ z_TB := z_t4 (i := 108) (by decide +kernel) rfl
theorem tl_8_21 : u_lay RX8 TX8 21 ∈ z_TB := z_t4 (i := 110) (by decide +kernel) rfl
theorem tl_8_22 : u_lay RX8 TX8 22 ∈ z_TB := z_t4 (i := 112) (by decide +kernel) rfl
theorem tl_8_23 : u_lay RX8 TX8 23 ∈ z_TB := z_t4 (i := 114) (by decide +kernel) rfl
theorem tl_8_24 : u_lay RX8 TX8 24 ∈ z_TB := z_t4 (i := 116) (by decide +kernel) rfl
theorem tl_8_25 : u_lay RX8 TX8 25 ∈ z_TB := z_t4 (i := 118) (by decide +kernel) rfl
theorem tl_8_26 : u_lay RX8 TX8 26 ∈ z_TB := z_t4 (i := 120) (by decide +kernel) rfl
theorem tl_8_27 : u_lay RX8 TX8 27 ∈ z_TB := z_t4 (i := 122) (by decide +kernel) rfl
theorem tl_8_28 : u_lay RX8 TX8 28 ∈ z_TB := z_t4 (i := 124) (by decide +kernel) rfl
theorem tl_8_29 : u_lay RX8 TX8 29 ∈ z_TB := z_t4 (i := 126) (by decide +kernel) rfl
theorem tl_8_30 : u_lay RX8 TX8 30 ∈ z_TB := z_t4 (i := 128) (by decide +kernel) rfl
theorem tl_8_31 : u_lay RX8 TX8 31 ∈ z_TB := z_t4 (i := 130) (by decide +kernel) rfl
theorem tl_8_32 : u_lay RX8 TX8 32 ∈ z_TB := z_t4 (i := 132) (by decide +kernel) rfl
theorem tl_8_33 : u_lay RX8 TX8 33 ∈ z_TB := z_t4 (i := 134) (by decide +kernel) rfl
theorem tl_8_34 : u_lay RX8 TX8 34 ∈ z_TB := z_t4 (i := 136) (by decide +kernel) rfl
theorem tl_8_35 : u_lay RX8 TX8 35 ∈ z_TB := z_t4 (i := 138) (by decide +kernel) rfl
theorem tl_8_36 : u_lay RX8 TX8 36 ∈ z_TB := z_t4 (i := 140) (by decide +kernel) rfl
theorem tl_8_37 : u_lay RX8 TX8 37 ∈ z_TB := z_t4 (i := 142) (by decide +kernel) rfl
theorem tl_8_38 : u_lay RX8 TX8 38 ∈ z_TB := z_t4 (i := 144) (by decide +kernel) rfl
theorem z_u8 : ∀ w ∈ u_ws RX8 TX8 39, w ∈ z_TB := by
  intro w hw
  obtain ⟨k, hk, rfl⟩ := List.mem_map.mp hw
  have hk := List.mem_range.mp hk
  match k, hk with
  | 0, _ => exact tl_8_0
  | 1, _ => exact tl_8_1
  | 2, _ => exact tl_8_2
  | 3, _ => exact tl_8_3
  | 4, _ => exact tl_8_4
  | 5, _ => exact tl_8_5
  | 6, _ => exact tl_8_6
  | 7, _ => exact tl_8_7
  | 8, _ => exact tl_8_8
  | 9, _ => exact tl_8_9
  | 10, _ => exact tl_8_10
  | 11, _ => exact tl_8_11
  | 12, _ => exact tl_8_12
  | 13, _ => exact tl_8_13
  | 14, _ => exact tl_8_14
  | 15, _ => exact tl_8_15
  | 16, _ => exact tl_8_16
  | 17, _ => exact tl_8_17
  | 18, _ => exact tl_8_18
  | 19, _ => exact tl_8_19
  | 20, _ => exact tl_8_20
  | 21, _ => exact tl_8_21
  | 22, _ => exact tl_8_22
  | 23, _ => exact tl_8_23
  | 24, _ => exact tl_8_24
  | 25, _ => exact tl_8_25
  | 26, _ => exact tl_8_26
  | 27, _ => exact tl_8_27
  | 28, _ => exact tl_8_28
  | 29, _ => exact tl_8_29
  | 30, _ => exact tl_8_30
  | 31, _ => exact tl_8_31
  | 32, _ => exact tl_8_32
  | 33, _ => exact tl_8_33
  | 34, _ => exact tl_8_34
  | 35, _ => exact tl_8_35
  | 36, _ => exact tl_8_36
  | 37, _ => exact tl_8_37
  | 38, _ => exact tl_8_38
  | k + 39, h => exact absurd h (by omega)
theorem z_cb8 : z_cb 8 RX8 TX8 39 tyX8 := ⟨rfl, z_u8, tyX8_ok, nmX8, by decide +kernel⟩
def z_flO : (Nat → Nat) → (Nat → Int32) → List Value := fun ad f => [.ref (ad 1), .ref (ad 2), .int (f 2), .ref (ad 34), .ref (ad 59), .ref (ad 63), .ref (ad 72), .ref (ad 15), .ref (ad 87), .ref (ad 88), .ref (ad 93)]
def z_flK (p : Nat) : (Nat → Nat) → (Nat → Int32) → List Value := fun ad f => [.ref (ad (p + 2)), .ref (ad (p + 4)), .int (f 2)]
def z_flF (p : Nat) : (Nat → Nat) → (Nat → Int32) → List Value := fun ad f => [.ref (ad (p + 9)), .ref (ad (p + 18)), .int (f 2)]
def z_flR (p : Nat) : (Nat → Nat) → (Nat → Int32) → List Value := fun ad f => [.int (f 0), .int (f 1), .int (f 2), .int (f 3), .ref (ad (p + 12)), .int (f 5), .int (f 6)]
def z_flA : (Nat → Nat) → (Nat → Int32) → List Value := fun ad f => [.ref (ad 60), .ref (ad 61), .ref (ad 62), .int (f 3)]
def z_flS (p : Nat) : (Nat → Nat) → (Nat → Int32) → List Value := fun ad f => [.ref (ad (p + 4)), .int (f 1), .int (f 2)]
def z_flW : (Nat → Nat) → (Nat → Int32) → List Value := fun ad f => [.ref (ad 73), .int (f 1), .int (f 2), .int (f 3), .int (f 4), .int (f 5), .int (f 6), .int (f 7), .int (f 8), .int (f 9)]
def z_flT (p : Nat) : (Nat → Nat) → (Nat → Int32) → List Value := fun ad f => [.ref (ad (p + 2)), .ref (ad (p + 4))]
def z_EX (cs : Nat → ClassId) (ad : Nat → Nat) (p : Nat) (f : Nat → Int32) (g : Nat → Int64) : va_E := if p = 0 then .inr (7, z_flO ad f) else if p < 3 then .inr (4, z_flK p ad f) else if p < 5 then .inl (cs 0, 12, .inl f) else if p < 7 then .inl (cs 3, 4, .inr (.inr (.inr (.inr (fun i => if i < 4 then some (ad (4 * p - 13 + i)) else none))))) else if p < 16 then .inr (1, z_flF p ad f) else if p < 34 then .inl (cs 0, 40, .inl f) else if p = 34 then .inl (cs 4, 12, .inr (.inr (.inr (.inr (fun i => if i < 12 then some (ad (35 + i)) else none))))) else if p < 47 then .inr (2, z_flR p ad f) else if p < 59 then .inl (cs 0, 12, .inl f) else if p = 59 then .inr (0, z_flA ad f) else if p < 63 then .inl (cs 0, 20, .inl f) else if p = 63 then .inl (cs 5, 4, .inr (.inr (.inr (.inr (fun i => if i < 4 then some (ad (64 + i)) else none))))) else if p < 68 then .inr (3, z_flS p ad f) else if p < 72 then .inl (cs 1, 40, .inr (.inl g)) else if p = 72 then .inr (6, z_flW ad f) else if p = 73 then .inl (cs 6, 13, .inr (.inr (.inr (.inr (fun i => if i < 13 then some (ad (74 + i)) else none))))) else if p < 87 then .inl (cs 0, 40, .inl f) else if p < 89 then .inr (5, z_flT p ad f) else if p < 91 then .inl (cs 1, 64, .inr (.inl g)) else if p < 93 then .inl (cs 0, 64, .inl f) else .inl (cs 0, 40, .inl f)
def ΛX : zL := (94, z_EX)
def z_stk (p : Nat) : Prop := 1 ≤ p ∧ p < 3
def z_fam (p : Nat) : Prop := 7 ≤ p ∧ p < 16
def z_rul (p : Nat) : Prop := 35 ≤ p ∧ p < 47
def z_she (p : Nat) : Prop := 64 ≤ p ∧ p < 68
def z_tab (p : Nat) : Prop := 87 ≤ p ∧ p < 89
theorem fx_obj : z_FO ΛX 0 7 z_flO := ⟨by decide, fun _ _ _ _ => rfl⟩
theorem fx_stk {p : Nat} (h : z_stk p) : z_FO ΛX p 4 (z_flK p) := by
  unfold z_stk at h
  exact ⟨by show p < 94; omega, fun cs ad f g => by
  show z_EX cs ad (p) f g = _
  unfold z_EX
  rw [if_neg (show ¬ p = 0 by omega), if_pos (show p < 3 by omega)]⟩
theorem fx_pri {p : Nat} (h : z_stk p) : z_FI ΛX (p + 2) 12 := by
  unfold z_stk at h
  exact ⟨by show p + 2 < 94; omega, fun cs ad f g => by
  show z_EX cs ad (p + 2) f g = _
  unfold z_EX
  rw [if_neg (show ¬ p + 2 = 0 by omega), if_neg (show ¬ p + 2 < 3 by omega), if_pos (show p + 2 < 5 by omega)]⟩
theorem fx_fms {p : Nat} (h : z_stk p) : z_FR ΛX (p + 4) 3 4 (fun i => 4 * p + 3 + i) := by
  unfold z_stk at h
  have e : 4 * (p + 4) - 13 = 4 * p + 3 := by omega
  exact ⟨by show p + 4 < 94; omega, fun cs ad f g => by
  show z_EX cs ad (p + 4) f g = _
  unfold z_EX
  rw [if_neg (show ¬ p + 4 = 0 by omega), if_neg (show ¬ p + 4 < 3 by omega), if_neg (show ¬ p + 4 < 5 by omega), if_pos (show p + 4 < 7 by omega), e]⟩
theorem fx_fms1 : z_FR ΛX 5 3 4 (fun i => 7 + i) := ⟨by decide, fun _ _ _ _ => rfl⟩
theorem z_in_lt {i : Int32} {n : Nat} (h : z_in i n = true) : i.toNatClampNeg < n := by
  obtain ⟨h1, h2⟩ := of_decide_eq_true h
  have := z_clamp h1
  omega
theorem fx_fmi {p : Nat} {i : Int32} (h : z_stk p) (hi : z_in i 4 = true) : z_fam (4 * p + 3 + i.toNatClampNeg) := by
  have := z_in_lt hi
  unfold z_stk at h
  unfold z_fam
  omega
theorem fx_fmi1 {i : Int32} (hi : z_in i 4 = true) : z_fam (7 + i.toNatClampNeg) := by
  have := z_in_lt hi
  unfold z_fam
  omega
theorem fx_fam {p : Nat} (h : z_fam p) : z_FO ΛX p 1 (z_flF p) := by
  unfold z_fam at h
  exact ⟨by show p < 94; omega, fun cs ad f g => by
  show z_EX cs ad (p) f g = _
  unfold z_EX
  rw [if_neg (show ¬ p = 0 by omega), if_neg (show ¬ p < 3 by omega), if_neg (show ¬ p < 5 by omega), if_neg (show ¬ p < 7 by omega), if_pos (show p < 16 by omega)]⟩
theorem fx_set {p : Nat} (h : z_fam p) : z_FI ΛX (p + 9) 40 := by
  unfold z_fam at h
  exact ⟨by show p + 9 < 94; omega, fun cs ad f g => by
  show z_EX cs ad (p + 9) f g = _
  unfold z_EX
  rw [if_neg (show ¬ p + 9 = 0 by omega), if_neg (show ¬ p + 9 < 3 by omega), if_neg (show ¬ p + 9 < 5 by omega), if_neg (show ¬ p + 9 < 7 by omega), if_neg (show ¬ p + 9 < 16 by omega), if_pos (show p + 9 < 34 by omega)]⟩
theorem fx_tal {p : Nat} (h : z_fam p) : z_FI ΛX (p + 18) 40 := by
  unfold z_fam at h
  exact ⟨by show p + 18 < 94; omega, fun cs ad f g => by
  show z_EX cs ad (p + 18) f g = _
  unfold z_EX
  rw [if_neg (show ¬ p + 18 = 0 by omega), if_neg (show ¬ p + 18 < 3 by omega), if_neg (show ¬ p + 18 < 5 by omega), if_neg (show ¬ p + 18 < 7 by omega), if_neg (show ¬ p + 18 < 16 by omega), if_pos (show p + 18 < 34 by omega)]⟩
theorem fx_rls : z_FR ΛX 34 4 12 (fun i => 35 + i) := ⟨by decide, fun _ _ _ _ => rfl⟩
theorem fx_rli {i : Int32} (hi : z_in i 12 = true) : z_rul (35 + i.toNatClampNeg) := by
  have := z_in_lt hi
  unfold z_rul
  omega
theorem fx_rul {p : Nat} (h : z_rul p) : z_FO ΛX p 2 (z_flR p) := by
  unfold z_rul at h
  exact ⟨by show p < 94; omega, fun cs ad f g => by
  show z_EX cs ad (p) f g = _
  unfold z_EX
  rw [if_neg (show ¬ p = 0 by omega), if_neg (show ¬ p < 3 by omega), if_neg (show ¬ p < 5 by omega), if_neg (show ¬ p < 7 by omega), if_neg (show ¬ p < 16 by omega), if_neg (show ¬ p < 34 by omega), if_neg (show ¬ p = 34 by omega), if_pos (show p < 47 by omega)]⟩
theorem fx_rlp {p : Nat} (h : z_rul p) : z_FI ΛX (p + 12) 12 := by
  unfold z_rul at h
  exact ⟨by show p + 12 < 94; omega, fun cs ad f g => by
  show z_EX cs ad (p + 12) f g = _
  unfold z_EX
  rw [if_neg (show ¬ p + 12 = 0 by omega), if_neg (show ¬ p + 12 < 3 by omega), if_neg (show ¬ p + 12 < 5 by omega), if_neg (show ¬ p + 12 < 7 by omega), if_neg (show ¬ p + 12 < 16 by omega), if_neg (show ¬ p + 12 < 34 by omega), if_neg (show ¬ p + 12 = 34 by omega), if_neg (show ¬ p + 12 < 47 by omega), if_pos (show p + 12 < 59 by omega)]⟩
theorem fx_act : z_FO ΛX 59 0 z_flA := ⟨by decide, fun _ _ _ _ => rfl⟩
theorem fx_ac60 : z_FI ΛX 60 20 := ⟨by decide, fun _ _ _ _ => rfl⟩
theorem fx_ac61 : z_FI ΛX 61 20 := ⟨by decide, fun _ _ _ _ => rfl⟩
theorem fx_ac62 : z_FI ΛX 62 20 := ⟨by decide, fun _ _ _ _ => rfl⟩
theorem fx_shs : z_FR ΛX 63 5 4 (fun i => 64 + i) := ⟨by decide, fun _ _ _ _ => rfl⟩
theorem fx_shi {i : Int32} (hi : z_in i 4 = true) : z_she (64 + i.toNatClampNeg) := by
  have := z_in_lt hi
  unfold z_she
  omega
theorem fx_she {p : Nat} (h : z_she p) : z_FO ΛX p 3 (z_flS p) := by
  unfold z_she at h
  exact ⟨by show p < 94; omega, fun cs ad f g => by
  show z_EX cs ad (p) f g = _
  unfold z_EX
  rw [if_neg (show ¬ p = 0 by omega), if_neg (show ¬ p < 3 by omega), if_neg (show ¬ p < 5 by omega), if_neg (show ¬ p < 7 by omega), if_neg (show ¬ p < 16 by omega), if_neg (show ¬ p < 34 by omega), if_neg (show ¬ p = 34 by omega), if_neg (show ¬ p < 47 by omega), if_neg (show ¬ p < 59 by omega), if_neg (show ¬ p = 59 by omega), if_neg (show ¬ p < 63 by omega), if_neg (show ¬ p = 63 by omega), if_pos (show p < 68 by omega)]⟩
theorem fx_row {p : Nat} (h : z_she p) : z_FJ ΛX (p + 4) 40 := by
  unfold z_she at h
  exact ⟨by show p + 4 < 94; omega, fun cs ad f g => by
  show z_EX cs ad (p + 4) f g = _
  unfold z_EX
  rw [if_neg (show ¬ p + 4 = 0 by omega), if_neg (show ¬ p + 4 < 3 by omega), if_neg (show ¬ p + 4 < 5 by omega), if_neg (show ¬ p + 4 < 7 by omega), if_neg (show ¬ p + 4 < 16 by omega), if_neg (show ¬ p + 4 < 34 by omega), if_neg (show ¬ p + 4 = 34 by omega), if_neg (show ¬ p + 4 < 47 by omega), if_neg (show ¬ p + 4 < 59 by omega), if_neg (show ¬ p + 4 = 59 by omega), if_neg (show ¬ p + 4 < 63 by omega), if_neg (show ¬ p + 4 = 63 by omega), if_neg (show ¬ p + 4 < 68 by omega), if_pos (show p + 4 < 72 by omega)]⟩
theorem fx_wlk : z_FO ΛX 72 6 z_flW := ⟨by decide, fun _ _ _ _ => rfl⟩
theorem fx_wrs : z_FR ΛX 73 6 13 (fun i => 74 + i) := ⟨by decide, fun _ _ _ _ => rfl⟩
theorem fx_wro {p : Nat} (h : p < 13) : z_FI ΛX (74 + p) 40 := ⟨by show 74 + p < 94; omega, fun cs ad f g => by
  show z_EX cs ad (74 + p) f g = _
  unfold z_EX
  rw [if_neg (show ¬ 74 + p = 0 by omega), if_neg (show ¬ 74 + p < 3 by omega), if_neg (show ¬ 74 + p < 5 by omega), if_neg (show ¬ 74 + p < 7 by omega), if_neg (show ¬ 74 + p < 16 by omega), if_neg (show ¬ 74 + p < 34 by omega), if_neg (show ¬ 74 + p = 34 by omega), if_neg (show ¬ 74 + p < 47 by omega), if_neg (show ¬ 74 + p < 59 by omega), if_neg (show ¬ 74 + p = 59 by omega), if_neg (show ¬ 74 + p < 63 by omega), if_neg (show ¬ 74 + p = 63 by omega), if_neg (show ¬ 74 + p < 68 by omega), if_neg (show ¬ 74 + p < 72 by omega), if_neg (show ¬ 74 + p = 72 by omega), if_neg (show ¬ 74 + p = 73 by omega), if_pos (show 74 + p < 87 by omega)]⟩
theorem fx_wri {i : Int32} (hi : z_in i 13 = true) : z_FI ΛX (74 + i.toNatClampNeg) 40 := fx_wro (z_in_lt hi)
theorem fx_tab {p : Nat} (h : z_tab p) : z_FO ΛX p 5 (z_flT p) := by
  unfold z_tab at h
  exact ⟨by show p < 94; omega, fun cs ad f g => by
  show z_EX cs ad (p) f g = _
  unfold z_EX
  rw [if_neg (show ¬ p = 0 by omega), if_neg (show ¬ p < 3 by omega), if_neg (show ¬ p < 5 by omega), if_neg (show ¬ p < 7 by omega), if_neg (show ¬ p < 16 by omega), if_neg (show ¬ p < 34 by omega), if_neg (show ¬ p = 34 by omega), if_neg (show ¬ p < 47 by omega), if_neg (show ¬ p < 59 by omega), if_neg (show ¬ p = 59 by omega), if_neg (show ¬ p < 63 by omega), if_neg (show ¬ p = 63 by omega), if_neg (show ¬ p < 68 by omega), if_neg (show ¬ p < 72 by omega), if_neg (show ¬ p = 72 by omega), if_neg (show ¬ p = 73 by omega), if_neg (show ¬ p < 87 by omega), if_pos (show p < 89 by omega)]⟩
theorem fx_wor {p : Nat} (h : z_tab p) : z_FJ ΛX (p + 2) 64 := by
  unfold z_tab at h
  exact ⟨by show p + 2 < 94; omega, fun cs ad f g => by
  show z_EX cs ad (p + 2) f g = _
  unfold z_EX
  rw [if_neg (show ¬ p + 2 = 0 by omega), if_neg (show ¬ p + 2 < 3 by omega), if_neg (show ¬ p + 2 < 5 by omega), if_neg (show ¬ p + 2 < 7 by omega), if_neg (show ¬ p + 2 < 16 by omega), if_neg (show ¬ p + 2 < 34 by omega), if_neg (show ¬ p + 2 = 34 by omega), if_neg (show ¬ p + 2 < 47 by omega), if_neg (show ¬ p + 2 < 59 by omega), if_neg (show ¬ p + 2 = 59 by omega), if_neg (show ¬ p + 2 < 63 by omega), if_neg (show ¬ p + 2 = 63 by omega), if_neg (show ¬ p + 2 < 68 by omega), if_neg (show ¬ p + 2 < 72 by omega), if_neg (show ¬ p + 2 = 72 by omega), if_neg (show ¬ p + 2 = 73 by omega), if_neg (show ¬ p + 2 < 87 by omega), if_neg (show ¬ p + 2 < 89 by omega), if_pos (show p + 2 < 91 by omega)]⟩
theorem fx_sup {p : Nat} (h : z_tab p) : z_FI ΛX (p + 4) 64 := by
  unfold z_tab at h
  exact ⟨by show p + 4 < 94; omega, fun cs ad f g => by
  show z_EX cs ad (p + 4) f g = _
  unfold z_EX
  rw [if_neg (show ¬ p + 4 = 0 by omega), if_neg (show ¬ p + 4 < 3 by omega), if_neg (show ¬ p + 4 < 5 by omega), if_neg (show ¬ p + 4 < 7 by omega), if_neg (show ¬ p + 4 < 16 by omega), if_neg (show ¬ p + 4 < 34 by omega), if_neg (show ¬ p + 4 = 34 by omega), if_neg (show ¬ p + 4 < 47 by omega), if_neg (show ¬ p + 4 < 59 by omega), if_neg (show ¬ p + 4 = 59 by omega), if_neg (show ¬ p + 4 < 63 by omega), if_neg (show ¬ p + 4 = 63 by omega), if_neg (show ¬ p + 4 < 68 by omega), if_neg (show ¬ p + 4 < 72 by omega), if_neg (show ¬ p + 4 = 72 by omega), if_neg (show ¬ p + 4 = 73 by omega), if_neg (show ¬ p + 4 < 87 by omega), if_neg (show ¬ p + 4 < 89 by omega), if_neg (show ¬ p + 4 < 91 by omega), if_pos (show p + 4 < 93 by omega)]⟩
theorem fx_wth : z_FI ΛX 93 40 := ⟨by decide, fun _ _ _ _ => rfl⟩
theorem fx_pr3 : z_FI ΛX 3 12 := ⟨by decide, fun _ _ _ _ => rfl⟩
theorem z_stk_1 : z_stk 1 := by unfold z_stk; omega
theorem z_stk_2 : z_stk 2 := by unfold z_stk; omega
theorem z_fam_15 : z_fam 15 := by unfold z_fam; omega
theorem z_tab_87 : z_tab 87 := by unfold z_tab; omega
theorem z_tab_88 : z_tab 88 := by unfold z_tab; omega
theorem fp_O2 {v : Int32} : ∀ ad f, 2 < (z_flO ad f).length ∧ (z_flO ad f).set 2 (.int v) = z_flO ad (upd f 2 v) := fun _ _ => ⟨Nat.le_of_ble_eq_true rfl, rfl⟩
theorem fp_K2 {p : Nat} {v : Int32} : ∀ ad f, 2 < ((z_flK p) ad f).length ∧ ((z_flK p) ad f).set 2 (.int v) = (z_flK p) ad (upd f 2 v) := fun _ _ => ⟨Nat.le_of_ble_eq_true rfl, rfl⟩
theorem fp_F2 {p : Nat} {v : Int32} : ∀ ad f, 2 < ((z_flF p) ad f).length ∧ ((z_flF p) ad f).set 2 (.int v) = (z_flF p) ad (upd f 2 v) := fun _ _ => ⟨Nat.le_of_ble_eq_true rfl, rfl⟩
theorem fp_R0 {p : Nat} {v : Int32} : ∀ ad f, 0 < ((z_flR p) ad f).length ∧ ((z_flR p) ad f).set 0 (.int v) = (z_flR p) ad (upd f 0 v) := fun _ _ => ⟨Nat.le_of_ble_eq_true rfl, rfl⟩
theorem fp_R1 {p : Nat} {v : Int32} : ∀ ad f, 1 < ((z_flR p) ad f).length ∧ ((z_flR p) ad f).set 1 (.int v) = (z_flR p) ad (upd f 1 v) := fun _ _ => ⟨Nat.le_of_ble_eq_true rfl, rfl⟩
theorem fp_R2 {p : Nat} {v : Int32} : ∀ ad f, 2 < ((z_flR p) ad f).length ∧ ((z_flR p) ad f).set 2 (.int v) = (z_flR p) ad (upd f 2 v) := fun _ _ => ⟨Nat.le_of_ble_eq_true rfl, rfl⟩
theorem fp_R3 {p : Nat} {v : Int32} : ∀ ad f, 3 < ((z_flR p) ad f).length ∧ ((z_flR p) ad f).set 3 (.int v) = (z_flR p) ad (upd f 3 v) := fun _ _ => ⟨Nat.le_of_ble_eq_true rfl, rfl⟩
theorem fp_R5 {p : Nat} {v : Int32} : ∀ ad f, 5 < ((z_flR p) ad f).length ∧ ((z_flR p) ad f).set 5 (.int v) = (z_flR p) ad (upd f 5 v) := fun _ _ => ⟨Nat.le_of_ble_eq_true rfl, rfl⟩
theorem fp_R6 {p : Nat} {v : Int32} : ∀ ad f, 6 < ((z_flR p) ad f).length ∧ ((z_flR p) ad f).set 6 (.int v) = (z_flR p) ad (upd f 6 v) := fun _ _ => ⟨Nat.le_of_ble_eq_true rfl, rfl⟩
theorem fp_A3 {v : Int32} : ∀ ad f, 3 < (z_flA ad f).length ∧ (z_flA ad f).set 3 (.int v) = z_flA ad (upd f 3 v) := fun _ _ => ⟨Nat.le_of_ble_eq_true rfl, rfl⟩
theorem fp_S1 {p : Nat} {v : Int32} : ∀ ad f, 1 < ((z_flS p) ad f).length ∧ ((z_flS p) ad f).set 1 (.int v) = (z_flS p) ad (upd f 1 v) := fun _ _ => ⟨Nat.le_of_ble_eq_true rfl, rfl⟩
theorem fp_S2 {p : Nat} {v : Int32} : ∀ ad f, 2 < ((z_flS p) ad f).length ∧ ((z_flS p) ad f).set 2 (.int v) = (z_flS p) ad (upd f 2 v) := fun _ _ => ⟨Nat.le_of_ble_eq_true rfl, rfl⟩
theorem fp_W1 {v : Int32} : ∀ ad f, 1 < (z_flW ad f).length ∧ (z_flW ad f).set 1 (.int v) = z_flW ad (upd f 1 v) := fun _ _ => ⟨Nat.le_of_ble_eq_true rfl, rfl⟩
theorem fp_W2 {v : Int32} : ∀ ad f, 2 < (z_flW ad f).length ∧ (z_flW ad f).set 2 (.int v) = z_flW ad (upd f 2 v) := fun _ _ => ⟨Nat.le_of_ble_eq_true rfl, rfl⟩
theorem fp_W3 {v : Int32} : ∀ ad f, 3 < (z_flW ad f).length ∧ (z_flW ad f).set 3 (.int v) = z_flW ad (upd f 3 v) := fun _ _ => ⟨Nat.le_of_ble_eq_true rfl, rfl⟩
theorem fp_W4 {v : Int32} : ∀ ad f, 4 < (z_flW ad f).length ∧ (z_flW ad f).set 4 (.int v) = z_flW ad (upd f 4 v) := fun _ _ => ⟨Nat.le_of_ble_eq_true rfl, rfl⟩
theorem fp_W5 {v : Int32} : ∀ ad f, 5 < (z_flW ad f).length ∧ (z_flW ad f).set 5 (.int v) = z_flW ad (upd f 5 v) := fun _ _ => ⟨Nat.le_of_ble_eq_true rfl, rfl⟩
theorem fp_W6 {v : Int32} : ∀ ad f, 6 < (z_flW ad f).length ∧ (z_flW ad f).set 6 (.int v) = z_flW ad (upd f 6 v) := fun _ _ => ⟨Nat.le_of_ble_eq_true rfl, rfl⟩
theorem fp_W7 {v : Int32} : ∀ ad f, 7 < (z_flW ad f).length ∧ (z_flW ad f).set 7 (.int v) = z_flW ad (upd f 7 v) := fun _ _ => ⟨Nat.le_of_ble_eq_true rfl, rfl⟩
theorem fp_W8 {v : Int32} : ∀ ad f, 8 < (z_flW ad f).length ∧ (z_flW ad f).set 8 (.int v) = z_flW ad (upd f 8 v) := fun _ _ => ⟨Nat.le_of_ble_eq_true rfl, rfl⟩
theorem fp_W9 {v : Int32} : ∀ ad f, 9 < (z_flW ad f).length ∧ (z_flW ad f).set 9 (.int v) = z_flW ad (upd f 9 v) := fun _ _ => ⟨Nat.le_of_ble_eq_true rfl, rfl⟩
def z_flM : (Nat → Nat) → (Nat → Int32) → List Value := fun ad f => [.ref (ad 1), .ref (ad 2), .ref (ad 3), .ref (ad 4), .int (f 4), .ref (ad 5), .ref (ad 6), .ref (ad 7), .ref (ad 8), .ref (ad 9), .int (f 10), .ref (ad 10), .ref (ad 11), .ref (ad 12), .ref (ad 13), .ref (ad 14), .int (f 16), .ref (ad 15), .int (f 18), .ref (ad 16), .int (f 20), .int (f 21), .int (f 22), .int (f 23), .int (f 24), .int (f 25), .int (f 26), .int (f 27), .ref (ad 17), .ref (ad 18), .ref (ad 19), .ref (ad 20), .ref (ad 21), .int (f 33), .ref (ad 22), .ref (ad 23), .ref (ad 24), .ref (ad 25), .int (f 38)]
def z_EM (cs : Nat → ClassId) (ad : Nat → Nat) (p : Nat) (f : Nat → Int32) (g : Nat → Int64) : va_E := match p with
  | 0 => .inr (8, z_flM ad f)
  | 1 => .inl (cs 0, 12, .inl f)
  | 2 => .inl (cs 0, 4, .inl f)
  | 3 => .inl (cs 0, 160, .inl f)
  | 4 => .inl (cs 0, 160, .inl f)
  | 5 => .inl (cs 0, 12, .inl f)
  | 6 => .inl (cs 0, 12, .inl f)
  | 7 => .inl (cs 0, 12, .inl f)
  | 8 => .inl (cs 0, 12, .inl f)
  | 9 => .inl (cs 0, 144, .inl f)
  | 10 => .inl (cs 0, 20, .inl f)
  | 11 => .inl (cs 0, 20, .inl f)
  | 12 => .inl (cs 0, 20, .inl f)
  | 13 => .inl (cs 2, 40, .inl f)
  | 14 => .inl (cs 0, 780, .inl f)
  | 15 => .inl (cs 0, 4096, .inl f)
  | 16 => .inl (cs 0, 560, .inl f)
  | 17 => .inl (cs 2, 4096, .inl f)
  | 18 => .inl (cs 0, 40, .inl f)
  | 19 => .inl (cs 0, 4, .inl f)
  | 20 => .inl (cs 0, 4, .inl f)
  | 21 => .inl (cs 1, 160, .inr (.inl g))
  | 22 => .inl (cs 0, 12, .inl f)
  | 23 => .inl (cs 0, 4, .inl f)
  | 24 => .inl (cs 0, 160, .inl f)
  | _ => .inl (cs 0, 160, .inl f)
def ΛM : zL := (26, z_EM)
theorem fm_obj : z_FO ΛM 0 8 z_flM := ⟨by decide, fun _ _ _ _ => rfl⟩
theorem fm_price : z_FI ΛM 1 12 := ⟨by decide, fun _ _ _ _ => rfl⟩
theorem fm_sizes : z_FI ΛM 2 4 := ⟨by decide, fun _ _ _ _ => rfl⟩
theorem fm_sets : z_FI ΛM 3 160 := ⟨by decide, fun _ _ _ _ => rfl⟩
theorem fm_tallies : z_FI ΛM 4 160 := ⟨by decide, fun _ _ _ _ => rfl⟩
theorem fm_ruleHow : z_FI ΛM 5 12 := ⟨by decide, fun _ _ _ _ => rfl⟩
theorem fm_ruleA : z_FI ΛM 6 12 := ⟨by decide, fun _ _ _ _ => rfl⟩
theorem fm_ruleB : z_FI ΛM 7 12 := ⟨by decide, fun _ _ _ _ => rfl⟩
theorem fm_ruleC : z_FI ΛM 8 12 := ⟨by decide, fun _ _ _ _ => rfl⟩
theorem fm_rulePrice : z_FI ΛM 9 144 := ⟨by decide, fun _ _ _ _ => rfl⟩
theorem fm_actSort : z_FI ΛM 10 20 := ⟨by decide, fun _ _ _ _ => rfl⟩
theorem fm_actOf : z_FI ΛM 11 20 := ⟨by decide, fun _ _ _ _ => rfl⟩
theorem fm_actV : z_FI ΛM 12 20 := ⟨by decide, fun _ _ _ _ => rfl⟩
theorem fm_goes : z_FZ ΛM 13 40 := ⟨by decide, fun _ _ _ _ => rfl⟩
theorem fm_wanted : z_FI ΛM 14 780 := ⟨by decide, fun _ _ _ _ => rfl⟩
theorem fm_least : z_FI ΛM 15 4096 := ⟨by decide, fun _ _ _ _ => rfl⟩
theorem fm_row : z_FI ΛM 16 560 := ⟨by decide, fun _ _ _ _ => rfl⟩
theorem fm_isCommon : z_FZ ΛM 17 4096 := ⟨by decide, fun _ _ _ _ => rfl⟩
theorem fm_worths : z_FI ΛM 18 40 := ⟨by decide, fun _ _ _ _ => rfl⟩
theorem fm_sorts : z_FI ΛM 19 4 := ⟨by decide, fun _ _ _ _ => rfl⟩
theorem fm_long0 : z_FI ΛM 20 4 := ⟨by decide, fun _ _ _ _ => rfl⟩
theorem fm_cells : z_FJ ΛM 21 160 := ⟨by decide, fun _ _ _ _ => rfl⟩
theorem fm_keptPrice : z_FI ΛM 22 12 := ⟨by decide, fun _ _ _ _ => rfl⟩
theorem fm_keptSizes : z_FI ΛM 23 4 := ⟨by decide, fun _ _ _ _ => rfl⟩
theorem fm_keptSets : z_FI ΛM 24 160 := ⟨by decide, fun _ _ _ _ => rfl⟩
theorem fm_keptTallies : z_FI ΛM 25 160 := ⟨by decide, fun _ _ _ _ => rfl⟩
theorem fp_M4 {v : Int32} : ∀ ad f, 4 < (z_flM ad f).length ∧ (z_flM ad f).set 4 (.int v) = z_flM ad (upd f 4 v) := fun _ _ => ⟨Nat.le_of_ble_eq_true rfl, rfl⟩
theorem fp_M10 {v : Int32} : ∀ ad f, 10 < (z_flM ad f).length ∧ (z_flM ad f).set 10 (.int v) = z_flM ad (upd f 10 v) := fun _ _ => ⟨Nat.le_of_ble_eq_true rfl, rfl⟩
theorem fp_M16 {v : Int32} : ∀ ad f, 16 < (z_flM ad f).length ∧ (z_flM ad f).set 16 (.int v) = z_flM ad (upd f 16 v) := fun _ _ => ⟨Nat.le_of_ble_eq_true rfl, rfl⟩
theorem fp_M18 {v : Int32} : ∀ ad f, 18 < (z_flM ad f).length ∧ (z_flM ad f).set 18 (.int v) = z_flM ad (upd f 18 v) := fun _ _ => ⟨Nat.le_of_ble_eq_true rfl, rfl⟩
theorem fp_M20 {v : Int32} : ∀ ad f, 20 < (z_flM ad f).length ∧ (z_flM ad f).set 20 (.int v) = z_flM ad (upd f 20 v) := fun _ _ => ⟨Nat.le_of_ble_eq_true rfl, rfl⟩
theorem fp_M21 {v : Int32} : ∀ ad f, 21 < (z_flM ad f).length ∧ (z_flM ad f).set 21 (.int v) = z_flM ad (upd f 21 v) := fun _ _ => ⟨Nat.le_of_ble_eq_true rfl, rfl⟩
theorem fp_M22 {v : Int32} : ∀ ad f, 22 < (z_flM ad f).length ∧ (z_flM ad f).set 22 (.int v) = z_flM ad (upd f 22 v) := fun _ _ => ⟨Nat.le_of_ble_eq_true rfl, rfl⟩
theorem fp_M23 {v : Int32} : ∀ ad f, 23 < (z_flM ad f).length ∧ (z_flM ad f).set 23 (.int v) = z_flM ad (upd f 23 v) := fun _ _ => ⟨Nat.le_of_ble_eq_true rfl, rfl⟩
theorem fp_M24 {v : Int32} : ∀ ad f, 24 < (z_flM ad f).length ∧ (z_flM ad f).set 24 (.int v) = z_flM ad (upd f 24 v) := fun _ _ => ⟨Nat.le_of_ble_eq_true rfl, rfl⟩
theorem fp_M25 {v : Int32} : ∀ ad f, 25 < (z_flM ad f).length ∧ (z_flM ad f).set 25 (.int v) = z_flM ad (upd f 25 v) := fun _ _ => ⟨Nat.le_of_ble_eq_true rfl, rfl⟩
theorem fp_M26 {v : Int32} : ∀ ad f, 26 < (z_flM ad f).length ∧ (z_flM ad f).set 26 (.int v) = z_flM ad (upd f 26 v) := fun _ _ => ⟨Nat.le_of_ble_eq_true rfl, rfl⟩
theorem fp_M27 {v : Int32} : ∀ ad f, 27 < (z_flM ad f).length ∧ (z_flM ad f).set 27 (.int v) = z_flM ad (upd f 27 v) := fun _ _ => ⟨Nat.le_of_ble_eq_true rfl, rfl⟩
theorem fp_M33 {v : Int32} : ∀ ad f, 33 < (z_flM ad f).length ∧ (z_flM ad f).set 33 (.int v) = z_flM ad (upd f 33 v) := fun _ _ => ⟨Nat.le_of_ble_eq_true rfl, rfl⟩
theorem fp_M38 {v : Int32} : ∀ ad f, 38 < (z_flM ad f).length ∧ (z_flM ad f).set 38 (.int v) = z_flM ad (upd f 38 v) := fun _ _ => ⟨Nat.le_of_ble_eq_true rfl, rfl⟩
end
