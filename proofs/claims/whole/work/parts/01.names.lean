-- ===== PART A: goes FIRST, ahead of the names: the tables' words, and 'selects' of the private methods out of them =====
/-- a private method of a class that the tables say can be made, by its rows of tables_1 -/
def lw_okq (q : MethodName × Nat) : Prop := (q.1.cls ≠ "java/lang/invoke/MethodHandle" ∧ q.1.cls ≠ "java/lang/invoke/VarHandle") ∧ Cond.instantiable q.1.cls q.2 ∈ tables_1 ∧ Cond.privateMethod q.1 ∈ tables_1 ∧ Cond.instanceMethod q.1 ∈ tables_1
theorem lw_p0 : lw_okq (⟨"SneezeGuard$Text", "signs", "(I)Ljava/lang/String;"⟩, 4) := ⟨⟨by decide +kernel, by decide +kernel⟩, List.mem_of_getElem? (i := 37) (by decide +kernel), List.mem_of_getElem? (i := 250) (by decide +kernel), List.mem_of_getElem? (i := 251) (by decide +kernel)⟩
theorem lw_p1 : lw_okq (⟨"SneezeGuard$Wall", "hearersByDistance", "(II)I"⟩, 9) := ⟨⟨by decide +kernel, by decide +kernel⟩, List.mem_of_getElem? (i := 58) (by decide +kernel), List.mem_of_getElem? (i := 362) (by decide +kernel), List.mem_of_getElem? (i := 363) (by decide +kernel)⟩
theorem lw_p2 : lw_okq (⟨"SneezeGuard$Weather", "add", "(III)V"⟩, 3) := ⟨⟨by decide +kernel, by decide +kernel⟩, List.mem_of_getElem? (i := 139) (by decide +kernel), List.mem_of_getElem? (i := 389) (by decide +kernel), List.mem_of_getElem? (i := 390) (by decide +kernel)⟩
theorem lw_p3 : lw_okq (⟨"SneezeGuard$Day", "begin", "()V"⟩, 17) := ⟨⟨by decide +kernel, by decide +kernel⟩, List.mem_of_getElem? (i := 161) (by decide +kernel), List.mem_of_getElem? (i := 400) (by decide +kernel), List.mem_of_getElem? (i := 401) (by decide +kernel)⟩
theorem lw_p4 : lw_okq (⟨"SneezeGuard$Day", "walk", "(I)V"⟩, 17) := ⟨⟨by decide +kernel, by decide +kernel⟩, List.mem_of_getElem? (i := 161) (by decide +kernel), List.mem_of_getElem? (i := 405) (by decide +kernel), List.mem_of_getElem? (i := 406) (by decide +kernel)⟩
theorem lw_p5 : lw_okq (⟨"SneezeGuard$Day", "sneeze", "(I)V"⟩, 17) := ⟨⟨by decide +kernel, by decide +kernel⟩, List.mem_of_getElem? (i := 161) (by decide +kernel), List.mem_of_getElem? (i := 410) (by decide +kernel), List.mem_of_getElem? (i := 411) (by decide +kernel)⟩
theorem lw_p6 : lw_okq (⟨"SneezeGuard$Day", "changeGuard", "(I)V"⟩, 17) := ⟨⟨by decide +kernel, by decide +kernel⟩, List.mem_of_getElem? (i := 161) (by decide +kernel), List.mem_of_getElem? (i := 418) (by decide +kernel), List.mem_of_getElem? (i := 419) (by decide +kernel)⟩
theorem lw_p7 : lw_okq (⟨"SneezeGuard$Day", "stand", "(I)V"⟩, 17) := ⟨⟨by decide +kernel, by decide +kernel⟩, List.mem_of_getElem? (i := 161) (by decide +kernel), List.mem_of_getElem? (i := 432) (by decide +kernel), List.mem_of_getElem? (i := 433) (by decide +kernel)⟩
theorem lw_p8 : lw_okq (⟨"SneezeGuard$Day", "spreadColds", "(I)V"⟩, 17) := ⟨⟨by decide +kernel, by decide +kernel⟩, List.mem_of_getElem? (i := 161) (by decide +kernel), List.mem_of_getElem? (i := 436) (by decide +kernel), List.mem_of_getElem? (i := 437) (by decide +kernel)⟩
theorem lw_p9 : lw_okq (⟨"SneezeGuard$Day", "othersInCellOf", "(I)I"⟩, 17) := ⟨⟨by decide +kernel, by decide +kernel⟩, List.mem_of_getElem? (i := 161) (by decide +kernel), List.mem_of_getElem? (i := 440) (by decide +kernel), List.mem_of_getElem? (i := 441) (by decide +kernel)⟩
theorem lw_p10 : lw_okq (⟨"SneezeGuard", "isPost", "(I)Z"⟩, 5) := ⟨⟨by decide +kernel, by decide +kernel⟩, List.mem_of_getElem? (i := 23) (by decide +kernel), List.mem_of_getElem? (i := 638) (by decide +kernel), List.mem_of_getElem? (i := 639) (by decide +kernel)⟩
theorem lw_p11 : lw_okq (⟨"SneezeGuard", "isPerson", "(I)Z"⟩, 5) := ⟨⟨by decide +kernel, by decide +kernel⟩, List.mem_of_getElem? (i := 23) (by decide +kernel), List.mem_of_getElem? (i := 646) (by decide +kernel), List.mem_of_getElem? (i := 647) (by decide +kernel)⟩
theorem lw_p12 : lw_okq (⟨"SneezeGuard$Sheets", "found", "(I)I"⟩, 4) := ⟨⟨by decide +kernel, by decide +kernel⟩, List.mem_of_getElem? (i := 561) (by decide +kernel), List.mem_of_getElem? (i := 675) (by decide +kernel), List.mem_of_getElem? (i := 676) (by decide +kernel)⟩
theorem lw_p13 : lw_okq (⟨"SneezeGuard$Plans", "setSpare", "(III)V"⟩, 5) := ⟨⟨by decide +kernel, by decide +kernel⟩, List.mem_of_getElem? (i := 485) (by decide +kernel), List.mem_of_getElem? (i := 768) (by decide +kernel), List.mem_of_getElem? (i := 769) (by decide +kernel)⟩
theorem lw_p14 : lw_okq (⟨"SneezeGuard$Hindsight", "comesOutSo", "()Z"⟩, 6) := ⟨⟨by decide +kernel, by decide +kernel⟩, List.mem_of_getElem? (i := 511) (by decide +kernel), List.mem_of_getElem? (i := 803) (by decide +kernel), List.mem_of_getElem? (i := 804) (by decide +kernel)⟩
theorem lw_p15 : lw_okq (⟨"SneezeGuard$Hindsight", "mostAlike", "(II)I"⟩, 6) := ⟨⟨by decide +kernel, by decide +kernel⟩, List.mem_of_getElem? (i := 511) (by decide +kernel), List.mem_of_getElem? (i := 832) (by decide +kernel), List.mem_of_getElem? (i := 833) (by decide +kernel)⟩
def lw_privs_1 : List (MethodName × Nat) := [(⟨"SneezeGuard$Text", "signs", "(I)Ljava/lang/String;"⟩, 4), (⟨"SneezeGuard$Wall", "hearersByDistance", "(II)I"⟩, 9), (⟨"SneezeGuard$Weather", "add", "(III)V"⟩, 3), (⟨"SneezeGuard$Day", "begin", "()V"⟩, 17), (⟨"SneezeGuard$Day", "walk", "(I)V"⟩, 17), (⟨"SneezeGuard$Day", "sneeze", "(I)V"⟩, 17), (⟨"SneezeGuard$Day", "changeGuard", "(I)V"⟩, 17), (⟨"SneezeGuard$Day", "stand", "(I)V"⟩, 17), (⟨"SneezeGuard$Day", "spreadColds", "(I)V"⟩, 17), (⟨"SneezeGuard$Day", "othersInCellOf", "(I)I"⟩, 17), (⟨"SneezeGuard", "isPost", "(I)Z"⟩, 5), (⟨"SneezeGuard", "isPerson", "(I)Z"⟩, 5), (⟨"SneezeGuard$Sheets", "found", "(I)I"⟩, 4), (⟨"SneezeGuard$Plans", "setSpare", "(III)V"⟩, 5), (⟨"SneezeGuard$Hindsight", "comesOutSo", "()Z"⟩, 6), (⟨"SneezeGuard$Hindsight", "mostAlike", "(II)I"⟩, 6)]
theorem lw_r1 : ∀ q ∈ lw_privs_1, lw_okq q := List.forall_mem_cons.mpr ⟨lw_p0, List.forall_mem_cons.mpr ⟨lw_p1, List.forall_mem_cons.mpr ⟨lw_p2, List.forall_mem_cons.mpr ⟨lw_p3, List.forall_mem_cons.mpr ⟨lw_p4, List.forall_mem_cons.mpr ⟨lw_p5, List.forall_mem_cons.mpr ⟨lw_p6, List.forall_mem_cons.mpr ⟨lw_p7, List.forall_mem_cons.mpr ⟨lw_p8, List.forall_mem_cons.mpr ⟨lw_p9, List.forall_mem_cons.mpr ⟨lw_p10, List.forall_mem_cons.mpr ⟨lw_p11, List.forall_mem_cons.mpr ⟨lw_p12, List.forall_mem_cons.mpr ⟨lw_p13, List.forall_mem_cons.mpr ⟨lw_p14, List.forall_mem_cons.mpr ⟨lw_p15, fun _ h => absurd h List.not_mem_nil⟩⟩⟩⟩⟩⟩⟩⟩⟩⟩⟩⟩⟩⟩⟩⟩
theorem lw_p16 : lw_okq (⟨"SneezeGuard$Chances", "weigh", "(II)V"⟩, 4) := ⟨⟨by decide +kernel, by decide +kernel⟩, List.mem_of_getElem? (i := 539) (by decide +kernel), List.mem_of_getElem? (i := 847) (by decide +kernel), List.mem_of_getElem? (i := 848) (by decide +kernel)⟩
theorem lw_p17 : lw_okq (⟨"SneezeGuard$Chances", "lotOf", "(I)I"⟩, 4) := ⟨⟨by decide +kernel, by decide +kernel⟩, List.mem_of_getElem? (i := 539) (by decide +kernel), List.mem_of_getElem? (i := 863) (by decide +kernel), List.mem_of_getElem? (i := 864) (by decide +kernel)⟩
theorem lw_p18 : lw_okq (⟨"SneezeGuard", "digestPost", "(JI)J"⟩, 5) := ⟨⟨by decide +kernel, by decide +kernel⟩, List.mem_of_getElem? (i := 23) (by decide +kernel), List.mem_of_getElem? (i := 934) (by decide +kernel), List.mem_of_getElem? (i := 935) (by decide +kernel)⟩
theorem lw_p19 : lw_okq (⟨"SneezeGuard", "digestPerson", "(JI)J"⟩, 5) := ⟨⟨by decide +kernel, by decide +kernel⟩, List.mem_of_getElem? (i := 23) (by decide +kernel), List.mem_of_getElem? (i := 943) (by decide +kernel), List.mem_of_getElem? (i := 944) (by decide +kernel)⟩
theorem lw_p20 : lw_okq (⟨"SneezeGuard", "digestRest", "(J)J"⟩, 5) := ⟨⟨by decide +kernel, by decide +kernel⟩, List.mem_of_getElem? (i := 23) (by decide +kernel), List.mem_of_getElem? (i := 952) (by decide +kernel), List.mem_of_getElem? (i := 953) (by decide +kernel)⟩
theorem lw_p21 : lw_okq (⟨"SneezeGuardModel", "finds", "(I)I"⟩, 37) := ⟨⟨by decide +kernel, by decide +kernel⟩, List.mem_of_getElem? (i := 965) (by decide +kernel), List.mem_of_getElem? (i := 1095) (by decide +kernel), List.mem_of_getElem? (i := 1096) (by decide +kernel)⟩
theorem lw_p22 : lw_okq (⟨"SneezeGuardModel", "lacks", "(III)I"⟩, 37) := ⟨⟨by decide +kernel, by decide +kernel⟩, List.mem_of_getElem? (i := 965) (by decide +kernel), List.mem_of_getElem? (i := 1107) (by decide +kernel), List.mem_of_getElem? (i := 1108) (by decide +kernel)⟩
theorem lw_p23 : lw_okq (⟨"SneezeGuardModel", "readsText", "(I)I"⟩, 37) := ⟨⟨by decide +kernel, by decide +kernel⟩, List.mem_of_getElem? (i := 965) (by decide +kernel), List.mem_of_getElem? (i := 1143) (by decide +kernel), List.mem_of_getElem? (i := 1144) (by decide +kernel)⟩
theorem lw_p24 : lw_okq (⟨"SneezeGuardModel", "readsPosts", "()I"⟩, 37) := ⟨⟨by decide +kernel, by decide +kernel⟩, List.mem_of_getElem? (i := 965) (by decide +kernel), List.mem_of_getElem? (i := 1147) (by decide +kernel), List.mem_of_getElem? (i := 1148) (by decide +kernel)⟩
theorem lw_p25 : lw_okq (⟨"SneezeGuardModel", "readsPeople", "()I"⟩, 37) := ⟨⟨by decide +kernel, by decide +kernel⟩, List.mem_of_getElem? (i := 965) (by decide +kernel), List.mem_of_getElem? (i := 1157) (by decide +kernel), List.mem_of_getElem? (i := 1158) (by decide +kernel)⟩
theorem lw_p26 : lw_okq (⟨"SneezeGuardModel", "isPost", "(I)Z"⟩, 37) := ⟨⟨by decide +kernel, by decide +kernel⟩, List.mem_of_getElem? (i := 965) (by decide +kernel), List.mem_of_getElem? (i := 1168) (by decide +kernel), List.mem_of_getElem? (i := 1169) (by decide +kernel)⟩
theorem lw_p27 : lw_okq (⟨"SneezeGuardModel", "isPerson", "(I)Z"⟩, 37) := ⟨⟨by decide +kernel, by decide +kernel⟩, List.mem_of_getElem? (i := 965) (by decide +kernel), List.mem_of_getElem? (i := 1176) (by decide +kernel), List.mem_of_getElem? (i := 1177) (by decide +kernel)⟩
theorem lw_p28 : lw_okq (⟨"SneezeGuardModel", "keeps", "(III)V"⟩, 37) := ⟨⟨by decide +kernel, by decide +kernel⟩, List.mem_of_getElem? (i := 965) (by decide +kernel), List.mem_of_getElem? (i := 1189) (by decide +kernel), List.mem_of_getElem? (i := 1190) (by decide +kernel)⟩
theorem lw_p29 : lw_okq (⟨"SneezeGuardModel", "find", "()V"⟩, 37) := ⟨⟨by decide +kernel, by decide +kernel⟩, List.mem_of_getElem? (i := 965) (by decide +kernel), List.mem_of_getElem? (i := 1206) (by decide +kernel), List.mem_of_getElem? (i := 1207) (by decide +kernel)⟩
theorem lw_p30 : lw_okq (⟨"SneezeGuardModel", "lives", "()V"⟩, 37) := ⟨⟨by decide +kernel, by decide +kernel⟩, List.mem_of_getElem? (i := 965) (by decide +kernel), List.mem_of_getElem? (i := 1210) (by decide +kernel), List.mem_of_getElem? (i := 1211) (by decide +kernel)⟩
theorem lw_p31 : lw_okq (⟨"SneezeGuardModel", "passes", "(I)V"⟩, 37) := ⟨⟨by decide +kernel, by decide +kernel⟩, List.mem_of_getElem? (i := 965) (by decide +kernel), List.mem_of_getElem? (i := 1214) (by decide +kernel), List.mem_of_getElem? (i := 1215) (by decide +kernel)⟩
def lw_privs_2 : List (MethodName × Nat) := [(⟨"SneezeGuard$Chances", "weigh", "(II)V"⟩, 4), (⟨"SneezeGuard$Chances", "lotOf", "(I)I"⟩, 4), (⟨"SneezeGuard", "digestPost", "(JI)J"⟩, 5), (⟨"SneezeGuard", "digestPerson", "(JI)J"⟩, 5), (⟨"SneezeGuard", "digestRest", "(J)J"⟩, 5), (⟨"SneezeGuardModel", "finds", "(I)I"⟩, 37), (⟨"SneezeGuardModel", "lacks", "(III)I"⟩, 37), (⟨"SneezeGuardModel", "readsText", "(I)I"⟩, 37), (⟨"SneezeGuardModel", "readsPosts", "()I"⟩, 37), (⟨"SneezeGuardModel", "readsPeople", "()I"⟩, 37), (⟨"SneezeGuardModel", "isPost", "(I)Z"⟩, 37), (⟨"SneezeGuardModel", "isPerson", "(I)Z"⟩, 37), (⟨"SneezeGuardModel", "keeps", "(III)V"⟩, 37), (⟨"SneezeGuardModel", "find", "()V"⟩, 37), (⟨"SneezeGuardModel", "lives", "()V"⟩, 37), (⟨"SneezeGuardModel", "passes", "(I)V"⟩, 37)]
theorem lw_r2 : ∀ q ∈ lw_privs_2, lw_okq q := List.forall_mem_cons.mpr ⟨lw_p16, List.forall_mem_cons.mpr ⟨lw_p17, List.forall_mem_cons.mpr ⟨lw_p18, List.forall_mem_cons.mpr ⟨lw_p19, List.forall_mem_cons.mpr ⟨lw_p20, List.forall_mem_cons.mpr ⟨lw_p21, List.forall_mem_cons.mpr ⟨lw_p22, List.forall_mem_cons.mpr ⟨lw_p23, List.forall_mem_cons.mpr ⟨lw_p24, List.forall_mem_cons.mpr ⟨lw_p25, List.forall_mem_cons.mpr ⟨lw_p26, List.forall_mem_cons.mpr ⟨lw_p27, List.forall_mem_cons.mpr ⟨lw_p28, List.forall_mem_cons.mpr ⟨lw_p29, List.forall_mem_cons.mpr ⟨lw_p30, List.forall_mem_cons.mpr ⟨lw_p31, fun _ h => absurd h List.not_mem_nil⟩⟩⟩⟩⟩⟩⟩⟩⟩⟩⟩⟩⟩⟩⟩⟩
theorem lw_p32 : lw_okq (⟨"SneezeGuardModel", "goes", "(I)V"⟩, 37) := ⟨⟨by decide +kernel, by decide +kernel⟩, List.mem_of_getElem? (i := 965) (by decide +kernel), List.mem_of_getElem? (i := 1218) (by decide +kernel), List.mem_of_getElem? (i := 1219) (by decide +kernel)⟩
theorem lw_p33 : lw_okq (⟨"SneezeGuardModel", "isSneezing", "(II)Z"⟩, 37) := ⟨⟨by decide +kernel, by decide +kernel⟩, List.mem_of_getElem? (i := 965) (by decide +kernel), List.mem_of_getElem? (i := 1222) (by decide +kernel), List.mem_of_getElem? (i := 1223) (by decide +kernel)⟩
theorem lw_p34 : lw_okq (⟨"SneezeGuardModel", "isTold", "(III)Z"⟩, 37) := ⟨⟨by decide +kernel, by decide +kernel⟩, List.mem_of_getElem? (i := 965) (by decide +kernel), List.mem_of_getElem? (i := 1226) (by decide +kernel), List.mem_of_getElem? (i := 1227) (by decide +kernel)⟩
theorem lw_p35 : lw_okq (⟨"SneezeGuardModel", "heardBy", "(I)I"⟩, 37) := ⟨⟨by decide +kernel, by decide +kernel⟩, List.mem_of_getElem? (i := 965) (by decide +kernel), List.mem_of_getElem? (i := 1233) (by decide +kernel), List.mem_of_getElem? (i := 1234) (by decide +kernel)⟩
theorem lw_p36 : lw_okq (⟨"SneezeGuardModel", "isCaught", "(I)Z"⟩, 37) := ⟨⟨by decide +kernel, by decide +kernel⟩, List.mem_of_getElem? (i := 965) (by decide +kernel), List.mem_of_getElem? (i := 1240) (by decide +kernel), List.mem_of_getElem? (i := 1241) (by decide +kernel)⟩
theorem lw_p37 : lw_okq (⟨"SneezeGuardModel", "atBy", "(III)I"⟩, 37) := ⟨⟨by decide +kernel, by decide +kernel⟩, List.mem_of_getElem? (i := 965) (by decide +kernel), List.mem_of_getElem? (i := 1244) (by decide +kernel), List.mem_of_getElem? (i := 1245) (by decide +kernel)⟩
theorem lw_p38 : lw_okq (⟨"SneezeGuardModel", "stoodOf", "(III)I"⟩, 37) := ⟨⟨by decide +kernel, by decide +kernel⟩, List.mem_of_getElem? (i := 965) (by decide +kernel), List.mem_of_getElem? (i := 1252) (by decide +kernel), List.mem_of_getElem? (i := 1253) (by decide +kernel)⟩
theorem lw_p39 : lw_okq (⟨"SneezeGuardModel", "changesIn", "(I)I"⟩, 37) := ⟨⟨by decide +kernel, by decide +kernel⟩, List.mem_of_getElem? (i := 965) (by decide +kernel), List.mem_of_getElem? (i := 1260) (by decide +kernel), List.mem_of_getElem? (i := 1261) (by decide +kernel)⟩
theorem lw_p40 : lw_okq (⟨"SneezeGuardModel", "forgottenNow", "()I"⟩, 37) := ⟨⟨by decide +kernel, by decide +kernel⟩, List.mem_of_getElem? (i := 965) (by decide +kernel), List.mem_of_getElem? (i := 1268) (by decide +kernel), List.mem_of_getElem? (i := 1269) (by decide +kernel)⟩
theorem lw_p41 : lw_okq (⟨"SneezeGuardModel", "longestBy", "(I)I"⟩, 37) := ⟨⟨by decide +kernel, by decide +kernel⟩, List.mem_of_getElem? (i := 965) (by decide +kernel), List.mem_of_getElem? (i := 1276) (by decide +kernel), List.mem_of_getElem? (i := 1277) (by decide +kernel)⟩
theorem lw_p42 : lw_okq (⟨"SneezeGuardModel", "allNow", "()I"⟩, 37) := ⟨⟨by decide +kernel, by decide +kernel⟩, List.mem_of_getElem? (i := 965) (by decide +kernel), List.mem_of_getElem? (i := 1287) (by decide +kernel), List.mem_of_getElem? (i := 1288) (by decide +kernel)⟩
theorem lw_p43 : lw_okq (⟨"SneezeGuardModel", "busyNow", "()I"⟩, 37) := ⟨⟨by decide +kernel, by decide +kernel⟩, List.mem_of_getElem? (i := 965) (by decide +kernel), List.mem_of_getElem? (i := 1295) (by decide +kernel), List.mem_of_getElem? (i := 1296) (by decide +kernel)⟩
theorem lw_p44 : lw_okq (⟨"SneezeGuardModel", "quietNow", "()I"⟩, 37) := ⟨⟨by decide +kernel, by decide +kernel⟩, List.mem_of_getElem? (i := 965) (by decide +kernel), List.mem_of_getElem? (i := 1303) (by decide +kernel), List.mem_of_getElem? (i := 1304) (by decide +kernel)⟩
theorem lw_p45 : lw_okq (⟨"SneezeGuardModel", "strollOf", "(II)I"⟩, 37) := ⟨⟨by decide +kernel, by decide +kernel⟩, List.mem_of_getElem? (i := 965) (by decide +kernel), List.mem_of_getElem? (i := 1311) (by decide +kernel), List.mem_of_getElem? (i := 1312) (by decide +kernel)⟩
theorem lw_p46 : lw_okq (⟨"SneezeGuardModel", "dustOf", "(II)I"⟩, 37) := ⟨⟨by decide +kernel, by decide +kernel⟩, List.mem_of_getElem? (i := 965) (by decide +kernel), List.mem_of_getElem? (i := 1322) (by decide +kernel), List.mem_of_getElem? (i := 1323) (by decide +kernel)⟩
theorem lw_p47 : lw_okq (⟨"SneezeGuardModel", "hushOf", "(II)I"⟩, 37) := ⟨⟨by decide +kernel, by decide +kernel⟩, List.mem_of_getElem? (i := 965) (by decide +kernel), List.mem_of_getElem? (i := 1330) (by decide +kernel), List.mem_of_getElem? (i := 1331) (by decide +kernel)⟩
def lw_privs_3 : List (MethodName × Nat) := [(⟨"SneezeGuardModel", "goes", "(I)V"⟩, 37), (⟨"SneezeGuardModel", "isSneezing", "(II)Z"⟩, 37), (⟨"SneezeGuardModel", "isTold", "(III)Z"⟩, 37), (⟨"SneezeGuardModel", "heardBy", "(I)I"⟩, 37), (⟨"SneezeGuardModel", "isCaught", "(I)Z"⟩, 37), (⟨"SneezeGuardModel", "atBy", "(III)I"⟩, 37), (⟨"SneezeGuardModel", "stoodOf", "(III)I"⟩, 37), (⟨"SneezeGuardModel", "changesIn", "(I)I"⟩, 37), (⟨"SneezeGuardModel", "forgottenNow", "()I"⟩, 37), (⟨"SneezeGuardModel", "longestBy", "(I)I"⟩, 37), (⟨"SneezeGuardModel", "allNow", "()I"⟩, 37), (⟨"SneezeGuardModel", "busyNow", "()I"⟩, 37), (⟨"SneezeGuardModel", "quietNow", "()I"⟩, 37), (⟨"SneezeGuardModel", "strollOf", "(II)I"⟩, 37), (⟨"SneezeGuardModel", "dustOf", "(II)I"⟩, 37), (⟨"SneezeGuardModel", "hushOf", "(II)I"⟩, 37)]
theorem lw_r3 : ∀ q ∈ lw_privs_3, lw_okq q := List.forall_mem_cons.mpr ⟨lw_p32, List.forall_mem_cons.mpr ⟨lw_p33, List.forall_mem_cons.mpr ⟨lw_p34, List.forall_mem_cons.mpr ⟨lw_p35, List.forall_mem_cons.mpr ⟨lw_p36, List.forall_mem_cons.mpr ⟨lw_p37, List.forall_mem_cons.mpr ⟨lw_p38, List.forall_mem_cons.mpr ⟨lw_p39, List.forall_mem_cons.mpr ⟨lw_p40, List.forall_mem_cons.mpr ⟨lw_p41, List.forall_mem_cons.mpr ⟨lw_p42, List.forall_mem_cons.mpr ⟨lw_p43, List.forall_mem_cons.mpr ⟨lw_p44, List.forall_mem_cons.mpr ⟨lw_p45, List.forall_mem_cons.mpr ⟨lw_p46, List.forall_mem_cons.mpr ⟨lw_p47, fun _ h => absurd h List.not_mem_nil⟩⟩⟩⟩⟩⟩⟩⟩⟩⟩⟩⟩⟩⟩⟩⟩
theorem lw_p48 : lw_okq (⟨"SneezeGuardModel", "spareBy", "(I)I"⟩, 37) := ⟨⟨by decide +kernel, by decide +kernel⟩, List.mem_of_getElem? (i := 965) (by decide +kernel), List.mem_of_getElem? (i := 1339) (by decide +kernel), List.mem_of_getElem? (i := 1340) (by decide +kernel)⟩
theorem lw_p49 : lw_okq (⟨"SneezeGuardModel", "isSpared", "(I)Z"⟩, 37) := ⟨⟨by decide +kernel, by decide +kernel⟩, List.mem_of_getElem? (i := 965) (by decide +kernel), List.mem_of_getElem? (i := 1343) (by decide +kernel), List.mem_of_getElem? (i := 1344) (by decide +kernel)⟩
theorem lw_p50 : lw_okq (⟨"SneezeGuardModel", "neverNow", "()I"⟩, 37) := ⟨⟨by decide +kernel, by decide +kernel⟩, List.mem_of_getElem? (i := 965) (by decide +kernel), List.mem_of_getElem? (i := 1360) (by decide +kernel), List.mem_of_getElem? (i := 1361) (by decide +kernel)⟩
theorem lw_p51 : lw_okq (⟨"SneezeGuardModel", "isSeen", "()Z"⟩, 37) := ⟨⟨by decide +kernel, by decide +kernel⟩, List.mem_of_getElem? (i := 965) (by decide +kernel), List.mem_of_getElem? (i := 1364) (by decide +kernel), List.mem_of_getElem? (i := 1365) (by decide +kernel)⟩
theorem lw_p52 : lw_okq (⟨"SneezeGuardModel", "wasOf", "(II)I"⟩, 37) := ⟨⟨by decide +kernel, by decide +kernel⟩, List.mem_of_getElem? (i := 965) (by decide +kernel), List.mem_of_getElem? (i := 1372) (by decide +kernel), List.mem_of_getElem? (i := 1373) (by decide +kernel)⟩
theorem lw_p53 : lw_okq (⟨"SneezeGuardModel", "sortOf", "(I)I"⟩, 37) := ⟨⟨by decide +kernel, by decide +kernel⟩, List.mem_of_getElem? (i := 965) (by decide +kernel), List.mem_of_getElem? (i := 1376) (by decide +kernel), List.mem_of_getElem? (i := 1377) (by decide +kernel)⟩
theorem lw_p54 : lw_okq (⟨"SneezeGuardModel", "coldsOf", "(I)I"⟩, 37) := ⟨⟨by decide +kernel, by decide +kernel⟩, List.mem_of_getElem? (i := 965) (by decide +kernel), List.mem_of_getElem? (i := 1380) (by decide +kernel), List.mem_of_getElem? (i := 1381) (by decide +kernel)⟩
theorem lw_p55 : lw_okq (⟨"SneezeGuardModel", "askOf", "(I)I"⟩, 37) := ⟨⟨by decide +kernel, by decide +kernel⟩, List.mem_of_getElem? (i := 965) (by decide +kernel), List.mem_of_getElem? (i := 1388) (by decide +kernel), List.mem_of_getElem? (i := 1389) (by decide +kernel)⟩
theorem lw_p56 : lw_okq (⟨"SneezeGuardModel", "alike", "(II)I"⟩, 37) := ⟨⟨by decide +kernel, by decide +kernel⟩, List.mem_of_getElem? (i := 965) (by decide +kernel), List.mem_of_getElem? (i := 1392) (by decide +kernel), List.mem_of_getElem? (i := 1393) (by decide +kernel)⟩
theorem lw_p57 : lw_okq (⟨"SneezeGuardModel", "chanceOf", "(III)J"⟩, 37) := ⟨⟨by decide +kernel, by decide +kernel⟩, List.mem_of_getElem? (i := 965) (by decide +kernel), List.mem_of_getElem? (i := 1401) (by decide +kernel), List.mem_of_getElem? (i := 1402) (by decide +kernel)⟩
theorem lw_p58 : lw_okq (⟨"SneezeGuardModel", "decadesOf", "(III)I"⟩, 37) := ⟨⟨by decide +kernel, by decide +kernel⟩, List.mem_of_getElem? (i := 965) (by decide +kernel), List.mem_of_getElem? (i := 1417) (by decide +kernel), List.mem_of_getElem? (i := 1418) (by decide +kernel)⟩
theorem lw_p59 : lw_okq (⟨"SneezeGuardModel", "lot", "(I)I"⟩, 37) := ⟨⟨by decide +kernel, by decide +kernel⟩, List.mem_of_getElem? (i := 965) (by decide +kernel), List.mem_of_getElem? (i := 1421) (by decide +kernel), List.mem_of_getElem? (i := 1422) (by decide +kernel)⟩
theorem lw_p60 : lw_okq (⟨"SneezeGuardModel", "tellsPost", "(JI)J"⟩, 37) := ⟨⟨by decide +kernel, by decide +kernel⟩, List.mem_of_getElem? (i := 965) (by decide +kernel), List.mem_of_getElem? (i := 1444) (by decide +kernel), List.mem_of_getElem? (i := 1445) (by decide +kernel)⟩
theorem lw_p61 : lw_okq (⟨"SneezeGuardModel", "tellsStood", "(JII)J"⟩, 37) := ⟨⟨by decide +kernel, by decide +kernel⟩, List.mem_of_getElem? (i := 965) (by decide +kernel), List.mem_of_getElem? (i := 1448) (by decide +kernel), List.mem_of_getElem? (i := 1449) (by decide +kernel)⟩
theorem lw_p62 : lw_okq (⟨"SneezeGuardModel", "tellsPerson", "(JI)J"⟩, 37) := ⟨⟨by decide +kernel, by decide +kernel⟩, List.mem_of_getElem? (i := 965) (by decide +kernel), List.mem_of_getElem? (i := 1452) (by decide +kernel), List.mem_of_getElem? (i := 1453) (by decide +kernel)⟩
theorem lw_p63 : lw_okq (⟨"SneezeGuardModel", "tellsHour", "(JII)J"⟩, 37) := ⟨⟨by decide +kernel, by decide +kernel⟩, List.mem_of_getElem? (i := 965) (by decide +kernel), List.mem_of_getElem? (i := 1456) (by decide +kernel), List.mem_of_getElem? (i := 1457) (by decide +kernel)⟩
def lw_privs_4 : List (MethodName × Nat) := [(⟨"SneezeGuardModel", "spareBy", "(I)I"⟩, 37), (⟨"SneezeGuardModel", "isSpared", "(I)Z"⟩, 37), (⟨"SneezeGuardModel", "neverNow", "()I"⟩, 37), (⟨"SneezeGuardModel", "isSeen", "()Z"⟩, 37), (⟨"SneezeGuardModel", "wasOf", "(II)I"⟩, 37), (⟨"SneezeGuardModel", "sortOf", "(I)I"⟩, 37), (⟨"SneezeGuardModel", "coldsOf", "(I)I"⟩, 37), (⟨"SneezeGuardModel", "askOf", "(I)I"⟩, 37), (⟨"SneezeGuardModel", "alike", "(II)I"⟩, 37), (⟨"SneezeGuardModel", "chanceOf", "(III)J"⟩, 37), (⟨"SneezeGuardModel", "decadesOf", "(III)I"⟩, 37), (⟨"SneezeGuardModel", "lot", "(I)I"⟩, 37), (⟨"SneezeGuardModel", "tellsPost", "(JI)J"⟩, 37), (⟨"SneezeGuardModel", "tellsStood", "(JII)J"⟩, 37), (⟨"SneezeGuardModel", "tellsPerson", "(JI)J"⟩, 37), (⟨"SneezeGuardModel", "tellsHour", "(JII)J"⟩, 37)]
theorem lw_r4 : ∀ q ∈ lw_privs_4, lw_okq q := List.forall_mem_cons.mpr ⟨lw_p48, List.forall_mem_cons.mpr ⟨lw_p49, List.forall_mem_cons.mpr ⟨lw_p50, List.forall_mem_cons.mpr ⟨lw_p51, List.forall_mem_cons.mpr ⟨lw_p52, List.forall_mem_cons.mpr ⟨lw_p53, List.forall_mem_cons.mpr ⟨lw_p54, List.forall_mem_cons.mpr ⟨lw_p55, List.forall_mem_cons.mpr ⟨lw_p56, List.forall_mem_cons.mpr ⟨lw_p57, List.forall_mem_cons.mpr ⟨lw_p58, List.forall_mem_cons.mpr ⟨lw_p59, List.forall_mem_cons.mpr ⟨lw_p60, List.forall_mem_cons.mpr ⟨lw_p61, List.forall_mem_cons.mpr ⟨lw_p62, List.forall_mem_cons.mpr ⟨lw_p63, fun _ h => absurd h List.not_mem_nil⟩⟩⟩⟩⟩⟩⟩⟩⟩⟩⟩⟩⟩⟩⟩⟩
def lw_privs : List (MethodName × Nat) := lw_privs_1 ++ (lw_privs_2 ++ (lw_privs_3 ++ (lw_privs_4)))
def lw_tbl : List Cond := k2_sels lw_privs ++ tables_1
theorem lw_privs_ok : ∀ q ∈ lw_privs, lw_okq q := by
  show ∀ q ∈ lw_privs_1 ++ (lw_privs_2 ++ (lw_privs_3 ++ (lw_privs_4))), lw_okq q
  exact List.forall_mem_append.mpr ⟨lw_r1, List.forall_mem_append.mpr ⟨lw_r2, List.forall_mem_append.mpr ⟨lw_r3, lw_r4⟩⟩⟩

def RX0 : String := "SneezeGuard$Chances"
def TX0 : u_T := fun k => match k with
  | 0 => ("SneezeGuard$Chances", "kingdom", "LSneezeGuard$Kingdom;", true)
  | 1 => ("SneezeGuard$Chances", "drawn", "LSneezeGuard$Events;", true)
  | 2 => ("SneezeGuard$Chances", "weights", "[J", true)
  | _ => ("SneezeGuard$Chances", "seed", "I", false)
def tyX0 : Nat → FieldType := fun k => match k with
  | 0 => .object "SneezeGuard$Kingdom"
  | 1 => .object "SneezeGuard$Events"
  | 2 => .array .long
  | _ => .int
abbrev wsX00 : List Cond := u_ws RX0 TX0 4
theorem nmX0 : ∀ a, a < 4 → ∀ b, b < 4 → a ≠ b → (TX0 a).2.1 ≠ (TX0 b).2.1 := by decide +kernel
theorem tyX0_ok : ∀ k, k < 4 → parseFieldDescriptor (TX0 k).2.2.1 = some (tyX0 k) := by decide +kernel
abbrev cX0_init : ByteArray := prog_2_method_1_code
def yX0_init : MethodName := ⟨RX0, "<init>", "(LSneezeGuard$Kingdom;)V"⟩
abbrev cX0_fraction : ByteArray := prog_2_method_2_code
def yX0_fraction : MethodName := ⟨RX0, "fraction", "(III)J"⟩
abbrev cX0_weigh : ByteArray := prog_2_method_3_code
def yX0_weigh : MethodName := ⟨RX0, "weigh", "(II)V"⟩
abbrev cX0_dayByLots : ByteArray := prog_2_method_4_code
def yX0_dayByLots : MethodName := ⟨RX0, "dayByLots", "(II)LSneezeGuard$Day;"⟩
abbrev cX0_lotOf : ByteArray := prog_2_method_5_code
def yX0_lotOf : MethodName := ⟨RX0, "lotOf", "(I)I"⟩
def RX1 : String := "SneezeGuard$Day"
def TX1 : u_T := fun k => match k with
  | 0 => ("SneezeGuard$Day", "wall", "LSneezeGuard$Wall;", true)
  | 1 => ("SneezeGuard$Day", "weather", "LSneezeGuard$Weather;", true)
  | 2 => ("SneezeGuard$Day", "cellNow", "[I", true)
  | 3 => ("SneezeGuard$Day", "stepNow", "[I", true)
  | 4 => ("SneezeGuard$Day", "coldNow", "[I", true)
  | 5 => ("SneezeGuard$Day", "stoodNow", "[I", true)
  | 6 => ("SneezeGuard$Day", "cell", "[I", true)
  | 7 => ("SneezeGuard$Day", "cold", "[I", true)
  | 8 => ("SneezeGuard$Day", "changed", "[I", true)
  | 9 => ("SneezeGuard$Day", "stood", "[I", true)
  | 10 => ("SneezeGuard$Day", "sneezers", "[I", true)
  | 11 => ("SneezeGuard$Day", "changes", "[I", true)
  | 12 => ("SneezeGuard$Day", "total", "I", false)
  | 13 => ("SneezeGuard$Day", "forgotten", "I", false)
  | 14 => ("SneezeGuard$Day", "longest", "I", false)
  | 15 => ("SneezeGuard$Day", "longestHour", "I", false)
  | _ => ("SneezeGuard$Day", "longestPost", "I", false)
def tyX1 : Nat → FieldType := fun k => match k with
  | 0 => .object "SneezeGuard$Wall"
  | 1 => .object "SneezeGuard$Weather"
  | 2 => .array .int
  | 3 => .array .int
  | 4 => .array .int
  | 5 => .array .int
  | 6 => .array .int
  | 7 => .array .int
  | 8 => .array .int
  | 9 => .array .int
  | 10 => .array .int
  | 11 => .array .int
  | 12 => .int
  | 13 => .int
  | 14 => .int
  | 15 => .int
  | _ => .int
abbrev wsX10 : List Cond := u_ws RX1 TX1 17
theorem nmX1 : ∀ a, a < 17 → ∀ b, b < 17 → a ≠ b → (TX1 a).2.1 ≠ (TX1 b).2.1 := by decide +kernel
theorem tyX1_ok : ∀ k, k < 17 → parseFieldDescriptor (TX1 k).2.2.1 = some (tyX1 k) := by decide +kernel
abbrev cX1_init : ByteArray := prog_3_method_1_code
def yX1_init : MethodName := ⟨RX1, "<init>", "(LSneezeGuard$Wall;LSneezeGuard$Weather;)V"⟩
abbrev cX1_pass : ByteArray := prog_3_method_2_code
def yX1_pass : MethodName := ⟨RX1, "pass", "()V"⟩
abbrev cX1_begin : ByteArray := prog_3_method_3_code
def yX1_begin : MethodName := ⟨RX1, "begin", "()V"⟩
abbrev cX1_walk : ByteArray := prog_3_method_4_code
def yX1_walk : MethodName := ⟨RX1, "walk", "(I)V"⟩
abbrev cX1_sneeze : ByteArray := prog_3_method_5_code
def yX1_sneeze : MethodName := ⟨RX1, "sneeze", "(I)V"⟩
abbrev cX1_divides : ByteArray := prog_3_method_6_code
def yX1_divides : MethodName := ⟨RX1, "divides", "(II)Z"⟩
abbrev cX1_changeGuard : ByteArray := prog_3_method_7_code
def yX1_changeGuard : MethodName := ⟨RX1, "changeGuard", "(I)V"⟩
abbrev cX1_stand : ByteArray := prog_3_method_8_code
def yX1_stand : MethodName := ⟨RX1, "stand", "(I)V"⟩
abbrev cX1_spreadColds : ByteArray := prog_3_method_9_code
def yX1_spreadColds : MethodName := ⟨RX1, "spreadColds", "(I)V"⟩
abbrev cX1_othersInCellOf : ByteArray := prog_3_method_10_code
def yX1_othersInCellOf : MethodName := ⟨RX1, "othersInCellOf", "(I)I"⟩
abbrev cX1_changerOf : ByteArray := prog_3_method_11_code
def yX1_changerOf : MethodName := ⟨RX1, "changerOf", "(II)I"⟩
abbrev cX1_busiest : ByteArray := prog_3_method_12_code
def yX1_busiest : MethodName := ⟨RX1, "busiest", "()I"⟩
abbrev cX1_silent : ByteArray := prog_3_method_13_code
def yX1_silent : MethodName := ⟨RX1, "silent", "()I"⟩
def RX2 : String := "SneezeGuard$Events"
def TX2 : u_T := fun k => match k with
  | 0 => ("SneezeGuard$Events", "events", "I", false)
  | 1 => ("SneezeGuard$Events", "kind", "[I", true)
  | 2 => ("SneezeGuard$Events", "hour", "[I", true)
  | _ => ("SneezeGuard$Events", "number", "[I", true)
def tyX2 : Nat → FieldType := fun k => match k with
  | 0 => .int
  | 1 => .array .int
  | 2 => .array .int
  | _ => .array .int
abbrev wsX20 : List Cond := u_ws RX2 TX2 4
theorem nmX2 : ∀ a, a < 4 → ∀ b, b < 4 → a ≠ b → (TX2 a).2.1 ≠ (TX2 b).2.1 := by decide +kernel
theorem tyX2_ok : ∀ k, k < 4 → parseFieldDescriptor (TX2 k).2.2.1 = some (tyX2 k) := by decide +kernel
abbrev cX2_init : ByteArray := prog_4_method_1_code
def yX2_init : MethodName := ⟨RX2, "<init>", "()V"⟩
abbrev cX2_mayBe : ByteArray := prog_4_method_2_code
def yX2_mayBe : MethodName := ⟨RX2, "mayBe", "(III)Z"⟩
abbrev cX2_add : ByteArray := prog_4_method_3_code
def yX2_add : MethodName := ⟨RX2, "add", "(III)Z"⟩
abbrev cX2_everyBit : ByteArray := prog_4_method_4_code
def yX2_everyBit : MethodName := ⟨RX2, "everyBit", "()I"⟩
def RX3 : String := "SneezeGuard$Hindsight"
def TX3 : u_T := fun k => match k with
  | 0 => ("SneezeGuard$Hindsight", "kingdom", "LSneezeGuard$Kingdom;", true)
  | 1 => ("SneezeGuard$Hindsight", "seen", "I", false)
  | 2 => ("SneezeGuard$Hindsight", "hour", "[I", true)
  | 3 => ("SneezeGuard$Hindsight", "post", "[I", true)
  | 4 => ("SneezeGuard$Hindsight", "is", "[I", true)
  | _ => ("SneezeGuard$Hindsight", "changesByCold", "[[I", true)
def tyX3 : Nat → FieldType := fun k => match k with
  | 0 => .object "SneezeGuard$Kingdom"
  | 1 => .int
  | 2 => .array .int
  | 3 => .array .int
  | 4 => .array .int
  | _ => .array (.array .int)
abbrev wsX30 : List Cond := u_ws RX3 TX3 6
theorem nmX3 : ∀ a, a < 6 → ∀ b, b < 6 → a ≠ b → (TX3 a).2.1 ≠ (TX3 b).2.1 := by decide +kernel
theorem tyX3_ok : ∀ k, k < 6 → parseFieldDescriptor (TX3 k).2.2.1 = some (tyX3 k) := by decide +kernel
abbrev cX3_init : ByteArray := prog_5_method_1_code
def yX3_init : MethodName := ⟨RX3, "<init>", "(LSneezeGuard$Kingdom;)V"⟩
abbrev cX3_see : ByteArray := prog_5_method_2_code
def yX3_see : MethodName := ⟨RX3, "see", "(III)I"⟩
abbrev cX3_needless : ByteArray := prog_5_method_3_code
def yX3_needless : MethodName := ⟨RX3, "needless", "()I"⟩
abbrev cX3_sortsOf : ByteArray := prog_5_method_4_code
def yX3_sortsOf : MethodName := ⟨RX3, "sortsOf", "(I)I"⟩
abbrev cX3_coldsOf : ByteArray := prog_5_method_5_code
def yX3_coldsOf : MethodName := ⟨RX3, "coldsOf", "(I)I"⟩
abbrev cX3_hourToAsk : ByteArray := prog_5_method_6_code
def yX3_hourToAsk : MethodName := ⟨RX3, "hourToAsk", "(I)I"⟩
abbrev cX3_mostAlike : ByteArray := prog_5_method_7_code
def yX3_mostAlike : MethodName := ⟨RX3, "mostAlike", "(II)I"⟩
abbrev cX3_comesOutSo : ByteArray := prog_5_method_8_code
def yX3_comesOutSo : MethodName := ⟨RX3, "comesOutSo", "()Z"⟩
def RX4 : String := "SneezeGuard$Kingdom"
def TX4 : u_T := fun k => match k with
  | 0 => ("SneezeGuard$Kingdom", "postsText", "LSneezeGuard$Text;", true)
  | 1 => ("SneezeGuard$Kingdom", "peopleText", "LSneezeGuard$Text;", true)
  | 2 => ("SneezeGuard$Kingdom", "wall", "LSneezeGuard$Wall;", true)
  | 3 => ("SneezeGuard$Kingdom", "events", "LSneezeGuard$Events;", true)
  | 4 => ("SneezeGuard$Kingdom", "weather", "LSneezeGuard$Weather;", true)
  | 5 => ("SneezeGuard$Kingdom", "told", "LSneezeGuard$Day;", true)
  | 6 => ("SneezeGuard$Kingdom", "supposed", "LSneezeGuard$Day;", true)
  | _ => ("SneezeGuard$Kingdom", "forgottenBy", "[I", true)
def tyX4 : Nat → FieldType := fun k => match k with
  | 0 => .object "SneezeGuard$Text"
  | 1 => .object "SneezeGuard$Text"
  | 2 => .object "SneezeGuard$Wall"
  | 3 => .object "SneezeGuard$Events"
  | 4 => .object "SneezeGuard$Weather"
  | 5 => .object "SneezeGuard$Day"
  | 6 => .object "SneezeGuard$Day"
  | _ => .array .int
abbrev wsX40 : List Cond := u_ws RX4 TX4 8
theorem nmX4 : ∀ a, a < 8 → ∀ b, b < 8 → a ≠ b → (TX4 a).2.1 ≠ (TX4 b).2.1 := by decide +kernel
theorem tyX4_ok : ∀ k, k < 8 → parseFieldDescriptor (TX4 k).2.2.1 = some (tyX4 k) := by decide +kernel
abbrev cX4_init : ByteArray := prog_6_method_1_code
def yX4_init : MethodName := ⟨RX4, "<init>", "()V"⟩
abbrev cX4_textOf : ByteArray := prog_6_method_2_code
def yX4_textOf : MethodName := ⟨RX4, "textOf", "(I)LSneezeGuard$Text;"⟩
abbrev cX4_tellAnew : ByteArray := prog_6_method_3_code
def yX4_tellAnew : MethodName := ⟨RX4, "tellAnew", "()V"⟩
abbrev cX4_clearWeather : ByteArray := prog_6_method_4_code
def yX4_clearWeather : MethodName := ⟨RX4, "clearWeather", "()V"⟩
abbrev cX4_supposeEvents : ByteArray := prog_6_method_5_code
def yX4_supposeEvents : MethodName := ⟨RX4, "supposeEvents", "(LSneezeGuard$Events;I)V"⟩
abbrev cX4_forgottenWith : ByteArray := prog_6_method_6_code
def yX4_forgottenWith : MethodName := ⟨RX4, "forgottenWith", "(I)I"⟩
def RX5 : String := "SneezeGuard$Plans"
def TX5 : u_T := fun k => match k with
  | 0 => ("SneezeGuard$Plans", "kingdom", "LSneezeGuard$Kingdom;", true)
  | 1 => ("SneezeGuard$Plans", "which", "I", false)
  | 2 => ("SneezeGuard$Plans", "howMany", "I", false)
  | 3 => ("SneezeGuard$Plans", "first", "I", false)
  | _ => ("SneezeGuard$Plans", "second", "I", false)
def tyX5 : Nat → FieldType := fun k => match k with
  | 0 => .object "SneezeGuard$Kingdom"
  | 1 => .int
  | 2 => .int
  | 3 => .int
  | _ => .int
abbrev wsX50 : List Cond := u_ws RX5 TX5 5
theorem nmX5 : ∀ a, a < 5 → ∀ b, b < 5 → a ≠ b → (TX5 a).2.1 ≠ (TX5 b).2.1 := by decide +kernel
theorem tyX5_ok : ∀ k, k < 5 → parseFieldDescriptor (TX5 k).2.2.1 = some (tyX5 k) := by decide +kernel
abbrev cX5_init : ByteArray := prog_7_method_1_code
def yX5_init : MethodName := ⟨RX5, "<init>", "(LSneezeGuard$Kingdom;)V"⟩
abbrev cX5_planStroll : ByteArray := prog_7_method_2_code
def yX5_planStroll : MethodName := ⟨RX5, "planStroll", "(I)V"⟩
abbrev cX5_planDust : ByteArray := prog_7_method_3_code
def yX5_planDust : MethodName := ⟨RX5, "planDust", "(I)V"⟩
abbrev cX5_planHush : ByteArray := prog_7_method_4_code
def yX5_planHush : MethodName := ⟨RX5, "planHush", "(I)V"⟩
abbrev cX5_planSpare : ByteArray := prog_7_method_5_code
def yX5_planSpare : MethodName := ⟨RX5, "planSpare", "()V"⟩
abbrev cX5_setSpare : ByteArray := prog_7_method_6_code
def yX5_setSpare : MethodName := ⟨RX5, "setSpare", "(III)V"⟩
def RX6 : String := "SneezeGuard$Sheets"
def TX6 : u_T := fun k => match k with
  | 0 => ("SneezeGuard$Sheets", "formOf", "[I", true)
  | 1 => ("SneezeGuard$Sheets", "lengths", "[I", true)
  | 2 => ("SneezeGuard$Sheets", "items", "[[I", true)
  | _ => ("SneezeGuard$Sheets", "latestFinding", "I", false)
def tyX6 : Nat → FieldType := fun k => match k with
  | 0 => .array .int
  | 1 => .array .int
  | 2 => .array (.array .int)
  | _ => .int
abbrev wsX60 : List Cond := u_ws RX6 TX6 4
theorem nmX6 : ∀ a, a < 4 → ∀ b, b < 4 → a ≠ b → (TX6 a).2.1 ≠ (TX6 b).2.1 := by decide +kernel
theorem tyX6_ok : ∀ k, k < 4 → parseFieldDescriptor (TX6 k).2.2.1 = some (tyX6 k) := by decide +kernel
abbrev cX6_init : ByteArray := prog_8_method_1_code
def yX6_init : MethodName := ⟨RX6, "<init>", "()V"⟩
abbrev cX6_make : ByteArray := prog_8_method_2_code
def yX6_make : MethodName := ⟨RX6, "make", "(III)I"⟩
abbrev cX6_drop : ByteArray := prog_8_method_3_code
def yX6_drop : MethodName := ⟨RX6, "drop", "(I)I"⟩
abbrev cX6_move : ByteArray := prog_8_method_4_code
def yX6_move : MethodName := ⟨RX6, "move", "(IIIII)I"⟩
abbrev cX6_hasRoom : ByteArray := prog_8_method_5_code
def yX6_hasRoom : MethodName := ⟨RX6, "hasRoom", "(III)Z"⟩
abbrev cX6_refusalOf : ByteArray := prog_8_method_6_code
def yX6_refusalOf : MethodName := ⟨RX6, "refusalOf", "(I)I"⟩
abbrev cX6_refusalOfItem : ByteArray := prog_8_method_7_code
def yX6_refusalOfItem : MethodName := ⟨RX6, "refusalOfItem", "(III)I"⟩
abbrev cX6_lengthOf : ByteArray := prog_8_method_8_code
def yX6_lengthOf : MethodName := ⟨RX6, "lengthOf", "(I)I"⟩
abbrev cX6_item : ByteArray := prog_8_method_9_code
def yX6_item : MethodName := ⟨RX6, "item", "(II)I"⟩
abbrev cX6_put : ByteArray := prog_8_method_10_code
def yX6_put : MethodName := ⟨RX6, "put", "(III)V"⟩
abbrev cX6_found : ByteArray := prog_8_method_11_code
def yX6_found : MethodName := ⟨RX6, "found", "(I)I"⟩
def RX7 : String := "SneezeGuard$Text"
def TX7 : u_T := fun k => match k with
  | 0 => ("SneezeGuard$Text", "ofPosts", "Z", true)
  | 1 => ("SneezeGuard$Text", "period", "I", true)
  | 2 => ("SneezeGuard$Text", "bytes", "[I", true)
  | _ => ("SneezeGuard$Text", "length", "I", false)
def tyX7 : Nat → FieldType := fun k => match k with
  | 0 => .boolean
  | 1 => .int
  | 2 => .array .int
  | _ => .int
abbrev wsX70 : List Cond := u_ws RX7 TX7 4
theorem nmX7 : ∀ a, a < 4 → ∀ b, b < 4 → a ≠ b → (TX7 a).2.1 ≠ (TX7 b).2.1 := by decide +kernel
theorem tyX7_ok : ∀ k, k < 4 → parseFieldDescriptor (TX7 k).2.2.1 = some (tyX7 k) := by decide +kernel
abbrev cX7_init : ByteArray := prog_9_method_1_code
def yX7_init : MethodName := ⟨RX7, "<init>", "(Z)V"⟩
abbrev cX7_add : ByteArray := prog_9_method_2_code
def yX7_add : MethodName := ⟨RX7, "add", "(I)I"⟩
abbrev cX7_clear : ByteArray := prog_9_method_3_code
def yX7_clear : MethodName := ⟨RX7, "clear", "()I"⟩
abbrev cX7_dropLast : ByteArray := prog_9_method_4_code
def yX7_dropLast : MethodName := ⟨RX7, "dropLast", "()I"⟩
abbrev cX7_firstFault : ByteArray := prog_9_method_5_code
def yX7_firstFault : MethodName := ⟨RX7, "firstFault", "()I"⟩
abbrev cX7_things : ByteArray := prog_9_method_6_code
def yX7_things : MethodName := ⟨RX7, "things", "()I"⟩
abbrev cX7_number : ByteArray := prog_9_method_7_code
def yX7_number : MethodName := ⟨RX7, "number", "(II)I"⟩
abbrev cX7_signs : ByteArray := prog_9_method_8_code
def yX7_signs : MethodName := ⟨RX7, "signs", "(I)Ljava/lang/String;"⟩
abbrev cX7_signsOfPost : ByteArray := prog_9_method_9_code
def yX7_signsOfPost : MethodName := ⟨RX7, "signsOfPost", "(I)Ljava/lang/String;"⟩
abbrev cX7_signsOfPerson : ByteArray := prog_9_method_10_code
def yX7_signsOfPerson : MethodName := ⟨RX7, "signsOfPerson", "(I)Ljava/lang/String;"⟩
def RX8 : String := "SneezeGuard$Wall"
def TX8 : u_T := fun k => match k with
  | 0 => ("SneezeGuard$Wall", "posts", "I", false)
  | 1 => ("SneezeGuard$Wall", "postCell", "[I", true)
  | 2 => ("SneezeGuard$Wall", "hard", "[I", true)
  | 3 => ("SneezeGuard$Wall", "hearers", "[I", true)
  | 4 => ("SneezeGuard$Wall", "people", "I", false)
  | 5 => ("SneezeGuard$Wall", "sort", "[I", true)
  | 6 => ("SneezeGuard$Wall", "cell", "[I", true)
  | 7 => ("SneezeGuard$Wall", "way", "[I", true)
  | _ => ("SneezeGuard$Wall", "cold", "[I", true)
def tyX8 : Nat → FieldType := fun k => match k with
  | 0 => .int
  | 1 => .array .int
  | 2 => .array .int
  | 3 => .array .int
  | 4 => .int
  | 5 => .array .int
  | 6 => .array .int
  | 7 => .array .int
  | _ => .array .int
abbrev wsX80 : List Cond := u_ws RX8 TX8 9
theorem nmX8 : ∀ a, a < 9 → ∀ b, b < 9 → a ≠ b → (TX8 a).2.1 ≠ (TX8 b).2.1 := by decide +kernel
theorem tyX8_ok : ∀ k, k < 9 → parseFieldDescriptor (TX8 k).2.2.1 = some (tyX8 k) := by decide +kernel
abbrev cX8_init : ByteArray := prog_10_method_1_code
def yX8_init : MethodName := ⟨RX8, "<init>", "()V"⟩
abbrev cX8_loadPosts : ByteArray := prog_10_method_2_code
def yX8_loadPosts : MethodName := ⟨RX8, "loadPosts", "(LSneezeGuard$Text;)V"⟩
abbrev cX8_loadPeople : ByteArray := prog_10_method_3_code
def yX8_loadPeople : MethodName := ⟨RX8, "loadPeople", "(LSneezeGuard$Text;)V"⟩
abbrev cX8_hearersOf : ByteArray := prog_10_method_4_code
def yX8_hearersOf : MethodName := ⟨RX8, "hearersOf", "(II)I"⟩
abbrev cX8_hearersByDistance : ByteArray := prog_10_method_5_code
def yX8_hearersByDistance : MethodName := ⟨RX8, "hearersByDistance", "(II)I"⟩
def RX9 : String := "SneezeGuard$Weather"
def TX9 : u_T := fun k => match k with
  | 0 => ("SneezeGuard$Weather", "pepperedCells", "[I", true)
  | 1 => ("SneezeGuard$Weather", "heldPeople", "[I", true)
  | _ => ("SneezeGuard$Weather", "frost", "[Z", true)
def tyX9 : Nat → FieldType := fun k => match k with
  | 0 => .array .int
  | 1 => .array .int
  | _ => .array .boolean
abbrev wsX90 : List Cond := u_ws RX9 TX9 3
theorem nmX9 : ∀ a, a < 3 → ∀ b, b < 3 → a ≠ b → (TX9 a).2.1 ≠ (TX9 b).2.1 := by decide +kernel
theorem tyX9_ok : ∀ k, k < 3 → parseFieldDescriptor (TX9 k).2.2.1 = some (tyX9 k) := by decide +kernel
abbrev cX9_init : ByteArray := prog_11_method_1_code
def yX9_init : MethodName := ⟨RX9, "<init>", "()V"⟩
abbrev cX9_load : ByteArray := prog_11_method_2_code
def yX9_load : MethodName := ⟨RX9, "load", "(LSneezeGuard$Events;I)V"⟩
abbrev cX9_add : ByteArray := prog_11_method_3_code
def yX9_add : MethodName := ⟨RX9, "add", "(III)V"⟩
def RX10 : String := "SneezeGuard"
def TX10 : u_T := fun k => match k with
  | 0 => ("SneezeGuard", "kingdom", "LSneezeGuard$Kingdom;", true)
  | 1 => ("SneezeGuard", "plans", "LSneezeGuard$Plans;", true)
  | 2 => ("SneezeGuard", "hindsight", "LSneezeGuard$Hindsight;", true)
  | 3 => ("SneezeGuard", "chances", "LSneezeGuard$Chances;", true)
  | _ => ("SneezeGuard", "sheets", "LSneezeGuard$Sheets;", true)
def tyX10 : Nat → FieldType := fun k => match k with
  | 0 => .object "SneezeGuard$Kingdom"
  | 1 => .object "SneezeGuard$Plans"
  | 2 => .object "SneezeGuard$Hindsight"
  | 3 => .object "SneezeGuard$Chances"
  | _ => .object "SneezeGuard$Sheets"
abbrev wsX100 : List Cond := u_ws RX10 TX10 5
theorem nmX10 : ∀ a, a < 5 → ∀ b, b < 5 → a ≠ b → (TX10 a).2.1 ≠ (TX10 b).2.1 := by decide +kernel
theorem tyX10_ok : ∀ k, k < 5 → parseFieldDescriptor (TX10 k).2.2.1 = some (tyX10 k) := by decide +kernel
abbrev cX10_init : ByteArray := prog_1_method_1_code
def yX10_init : MethodName := ⟨RX10, "<init>", "()V"⟩
abbrev cX10_type : ByteArray := prog_1_method_2_code
def yX10_type : MethodName := ⟨RX10, "type", "(II)I"⟩
abbrev cX10_wipe : ByteArray := prog_1_method_3_code
def yX10_wipe : MethodName := ⟨RX10, "wipe", "(I)I"⟩
abbrev cX10_undo : ByteArray := prog_1_method_4_code
def yX10_undo : MethodName := ⟨RX10, "undo", "(I)I"⟩
abbrev cX10_fault : ByteArray := prog_1_method_5_code
def yX10_fault : MethodName := ⟨RX10, "fault", "(I)I"⟩
abbrev cX10_post : ByteArray := prog_1_method_6_code
def yX10_post : MethodName := ⟨RX10, "post", "(II)I"⟩
abbrev cX10_person : ByteArray := prog_1_method_7_code
def yX10_person : MethodName := ⟨RX10, "person", "(II)I"⟩
abbrev cX10_event : ByteArray := prog_1_method_8_code
def yX10_event : MethodName := ⟨RX10, "event", "(III)I"⟩
abbrev cX10_back : ByteArray := prog_1_method_9_code
def yX10_back : MethodName := ⟨RX10, "back", "()I"⟩
abbrev cX10_read : ByteArray := prog_1_method_10_code
def yX10_read : MethodName := ⟨RX10, "read", "(I)I"⟩
abbrev cX10_at : ByteArray := prog_1_method_11_code
def yX10_at : MethodName := ⟨RX10, "at", "(III)I"⟩
abbrev cX10_stood : ByteArray := prog_1_method_12_code
def yX10_stood : MethodName := ⟨RX10, "stood", "(III)I"⟩
abbrev cX10_changes : ByteArray := prog_1_method_13_code
def yX10_changes : MethodName := ⟨RX10, "changes", "(I)I"⟩
abbrev cX10_forgotten : ByteArray := prog_1_method_14_code
def yX10_forgotten : MethodName := ⟨RX10, "forgotten", "()I"⟩
abbrev cX10_longest : ByteArray := prog_1_method_15_code
def yX10_longest : MethodName := ⟨RX10, "longest", "(I)I"⟩
abbrev cX10_all : ByteArray := prog_1_method_16_code
def yX10_all : MethodName := ⟨RX10, "all", "()I"⟩
abbrev cX10_busy : ByteArray := prog_1_method_17_code
def yX10_busy : MethodName := ⟨RX10, "busy", "()I"⟩
abbrev cX10_quiet : ByteArray := prog_1_method_18_code
def yX10_quiet : MethodName := ⟨RX10, "quiet", "()I"⟩
abbrev cX10_stroll : ByteArray := prog_1_method_19_code
def yX10_stroll : MethodName := ⟨RX10, "stroll", "(II)I"⟩
abbrev cX10_dust : ByteArray := prog_1_method_20_code
def yX10_dust : MethodName := ⟨RX10, "dust", "(II)I"⟩
abbrev cX10_hush : ByteArray := prog_1_method_21_code
def yX10_hush : MethodName := ⟨RX10, "hush", "(II)I"⟩
abbrev cX10_spare : ByteArray := prog_1_method_22_code
def yX10_spare : MethodName := ⟨RX10, "spare", "(I)I"⟩
abbrev cX10_seen : ByteArray := prog_1_method_23_code
def yX10_seen : MethodName := ⟨RX10, "seen", "(III)I"⟩
abbrev cX10_forget : ByteArray := prog_1_method_24_code
def yX10_forget : MethodName := ⟨RX10, "forget", "()I"⟩
abbrev cX10_never : ByteArray := prog_1_method_25_code
def yX10_never : MethodName := ⟨RX10, "never", "()I"⟩
abbrev cX10_was : ByteArray := prog_1_method_26_code
def yX10_was : MethodName := ⟨RX10, "was", "(II)I"⟩
abbrev cX10_ask : ByteArray := prog_1_method_27_code
def yX10_ask : MethodName := ⟨RX10, "ask", "(I)I"⟩
abbrev cX10_chance : ByteArray := prog_1_method_28_code
def yX10_chance : MethodName := ⟨RX10, "chance", "(III)J"⟩
abbrev cX10_decades : ByteArray := prog_1_method_29_code
def yX10_decades : MethodName := ⟨RX10, "decades", "(III)I"⟩
abbrev cX10_sheet : ByteArray := prog_1_method_30_code
def yX10_sheet : MethodName := ⟨RX10, "sheet", "(III)I"⟩
abbrev cX10_lose : ByteArray := prog_1_method_31_code
def yX10_lose : MethodName := ⟨RX10, "lose", "(I)I"⟩
abbrev cX10_lay : ByteArray := prog_1_method_32_code
def yX10_lay : MethodName := ⟨RX10, "lay", "(IIII)I"⟩
abbrev cX10_get : ByteArray := prog_1_method_33_code
def yX10_get : MethodName := ⟨RX10, "get", "(III)I"⟩
abbrev cX10_copy : ByteArray := prog_1_method_34_code
def yX10_copy : MethodName := ⟨RX10, "copy", "(IIIII)I"⟩
abbrev cX10_write : ByteArray := prog_1_method_35_code
def yX10_write : MethodName := ⟨RX10, "write", "(II)I"⟩
abbrev cX10_count : ByteArray := prog_1_method_36_code
def yX10_count : MethodName := ⟨RX10, "count", "(I)I"⟩
abbrev cX10_digest : ByteArray := prog_1_method_37_code
def yX10_digest : MethodName := ⟨RX10, "digest", "()J"⟩
abbrev cX10_digestPost : ByteArray := prog_1_method_38_code
def yX10_digestPost : MethodName := ⟨RX10, "digestPost", "(JI)J"⟩
abbrev cX10_digestPerson : ByteArray := prog_1_method_39_code
def yX10_digestPerson : MethodName := ⟨RX10, "digestPerson", "(JI)J"⟩
abbrev cX10_digestRest : ByteArray := prog_1_method_40_code
def yX10_digestRest : MethodName := ⟨RX10, "digestRest", "(J)J"⟩
abbrev cX10_digestHour : ByteArray := prog_1_method_41_code
def yX10_digestHour : MethodName := ⟨RX10, "digestHour", "(I)I"⟩
abbrev cX10_isPost : ByteArray := prog_1_method_42_code
def yX10_isPost : MethodName := ⟨RX10, "isPost", "(I)Z"⟩
abbrev cX10_isPerson : ByteArray := prog_1_method_43_code
def yX10_isPerson : MethodName := ⟨RX10, "isPerson", "(I)Z"⟩
abbrev cX10_isBelow : ByteArray := prog_1_method_44_code
def yX10_isBelow : MethodName := ⟨RX10, "isBelow", "(II)Z"⟩
abbrev cX10_hasBit : ByteArray := prog_1_method_45_code
def yX10_hasBit : MethodName := ⟨RX10, "hasBit", "(II)Z"⟩
abbrev cX10_timesOfBit : ByteArray := prog_1_method_46_code
def yX10_timesOfBit : MethodName := ⟨RX10, "timesOfBit", "([III)I"⟩
def RX11 : String := "SneezeGuardModel"
def TX11 : u_T := fun k => match k with
  | 0 => ("SneezeGuardModel", "forms", "[I", true)
  | 1 => ("SneezeGuardModel", "sizes", "[I", true)
  | 2 => ("SneezeGuardModel", "items", "[I", true)
  | 3 => ("SneezeGuardModel", "moved", "[I", true)
  | 4 => ("SneezeGuardModel", "latest", "I", false)
  | 5 => ("SneezeGuardModel", "bytes", "[I", true)
  | 6 => ("SneezeGuardModel", "typed", "[I", true)
  | 7 => ("SneezeGuardModel", "posts", "I", false)
  | 8 => ("SneezeGuardModel", "post", "[I", true)
  | 9 => ("SneezeGuardModel", "people", "I", false)
  | 10 => ("SneezeGuardModel", "person", "[I", true)
  | 11 => ("SneezeGuardModel", "events", "I", false)
  | 12 => ("SneezeGuardModel", "event", "[I", true)
  | 13 => ("SneezeGuardModel", "gone", "I", false)
  | 14 => ("SneezeGuardModel", "oddHour", "I", false)
  | 15 => ("SneezeGuardModel", "oddKind", "I", false)
  | 16 => ("SneezeGuardModel", "oddNumber", "I", false)
  | 17 => ("SneezeGuardModel", "cell", "[I", true)
  | 18 => ("SneezeGuardModel", "way", "[I", true)
  | 19 => ("SneezeGuardModel", "cold", "[I", true)
  | 20 => ("SneezeGuardModel", "sneezes", "[Z", true)
  | 21 => ("SneezeGuardModel", "often", "[I", true)
  | 22 => ("SneezeGuardModel", "busy", "[I", true)
  | 23 => ("SneezeGuardModel", "stood", "[I", true)
  | 24 => ("SneezeGuardModel", "changed", "[I", true)
  | 25 => ("SneezeGuardModel", "cellBy", "[I", true)
  | 26 => ("SneezeGuardModel", "sneezesBy", "[I", true)
  | 27 => ("SneezeGuardModel", "oftenBy", "[I", true)
  | 28 => ("SneezeGuardModel", "coldBy", "[I", true)
  | 29 => ("SneezeGuardModel", "stoodBy", "[I", true)
  | 30 => ("SneezeGuardModel", "changedBy", "[I", true)
  | 31 => ("SneezeGuardModel", "whoBy", "[I", true)
  | 32 => ("SneezeGuardModel", "sights", "I", false)
  | 33 => ("SneezeGuardModel", "sight", "[I", true)
  | 34 => ("SneezeGuardModel", "ways", "[I", true)
  | 35 => ("SneezeGuardModel", "drawn", "I", false)
  | _ => ("SneezeGuardModel", "told", "[I", true)
def tyX11 : Nat → FieldType := fun k => match k with
  | 0 => .array .int
  | 1 => .array .int
  | 2 => .array .int
  | 3 => .array .int
  | 4 => .int
  | 5 => .array .int
  | 6 => .array .int
  | 7 => .int
  | 8 => .array .int
  | 9 => .int
  | 10 => .array .int
  | 11 => .int
  | 12 => .array .int
  | 13 => .int
  | 14 => .int
  | 15 => .int
  | 16 => .int
  | 17 => .array .int
  | 18 => .array .int
  | 19 => .array .int
  | 20 => .array .boolean
  | 21 => .array .int
  | 22 => .array .int
  | 23 => .array .int
  | 24 => .array .int
  | 25 => .array .int
  | 26 => .array .int
  | 27 => .array .int
  | 28 => .array .int
  | 29 => .array .int
  | 30 => .array .int
  | 31 => .array .int
  | 32 => .int
  | 33 => .array .int
  | 34 => .array .int
  | 35 => .int
  | _ => .array .int
abbrev wsX110 : List Cond := u_ws RX11 TX11 37
theorem nmX11 : ∀ a, a < 37 → ∀ b, b < 37 → a ≠ b → (TX11 a).2.1 ≠ (TX11 b).2.1 := by decide +kernel
theorem tyX11_ok : ∀ k, k < 37 → parseFieldDescriptor (TX11 k).2.2.1 = some (tyX11 k) := by decide +kernel
abbrev cX11_init : ByteArray := prog_13_method_1_code
def yX11_init : MethodName := ⟨RX11, "<init>", "()V"⟩
abbrev cX11_in : ByteArray := prog_13_method_3_code
def yX11_in : MethodName := ⟨RX11, "in", "(JJJ)Z"⟩
abbrev cX11_no : ByteArray := prog_13_method_4_code
def yX11_no : MethodName := ⟨RX11, "no", "(I)J"⟩
abbrev cX11_isTwo : ByteArray := prog_13_method_5_code
def yX11_isTwo : MethodName := ⟨RX11, "isTwo", "(I)Z"⟩
abbrev cX11_isIn : ByteArray := prog_13_method_6_code
def yX11_isIn : MethodName := ⟨RX11, "isIn", "(II)Z"⟩
abbrev cX11_ones : ByteArray := prog_13_method_7_code
def yX11_ones : MethodName := ⟨RX11, "ones", "(I)I"⟩
abbrev cX11_lesser : ByteArray := prog_13_method_8_code
def yX11_lesser : MethodName := ⟨RX11, "lesser", "(II)I"⟩
abbrev cX11_greater : ByteArray := prog_13_method_9_code
def yX11_greater : MethodName := ⟨RX11, "greater", "(II)I"⟩
abbrev cX11_apart : ByteArray := prog_13_method_10_code
def yX11_apart : MethodName := ⟨RX11, "apart", "(II)I"⟩
abbrev cX11_part : ByteArray := prog_13_method_11_code
def yX11_part : MethodName := ⟨RX11, "part", "(JJI)J"⟩
abbrev cX11_finds : ByteArray := prog_13_method_12_code
def yX11_finds : MethodName := ⟨RX11, "finds", "(I)I"⟩
abbrev cX11_isSheet : ByteArray := prog_13_method_13_code
def yX11_isSheet : MethodName := ⟨RX11, "isSheet", "(I)Z"⟩
abbrev cX11_sheet : ByteArray := prog_13_method_14_code
def yX11_sheet : MethodName := ⟨RX11, "sheet", "(III)I"⟩
abbrev cX11_lose : ByteArray := prog_13_method_15_code
def yX11_lose : MethodName := ⟨RX11, "lose", "(I)I"⟩
abbrev cX11_lacks : ByteArray := prog_13_method_16_code
def yX11_lacks : MethodName := ⟨RX11, "lacks", "(III)I"⟩
abbrev cX11_cut : ByteArray := prog_13_method_17_code
def yX11_cut : MethodName := ⟨RX11, "cut", "(II)I"⟩
abbrev cX11_lay : ByteArray := prog_13_method_18_code
def yX11_lay : MethodName := ⟨RX11, "lay", "(IIII)I"⟩
abbrev cX11_get : ByteArray := prog_13_method_19_code
def yX11_get : MethodName := ⟨RX11, "get", "(III)I"⟩
abbrev cX11_copy : ByteArray := prog_13_method_20_code
def yX11_copy : MethodName := ⟨RX11, "copy", "(IIIII)I"⟩
abbrev cX11_type : ByteArray := prog_13_method_21_code
def yX11_type : MethodName := ⟨RX11, "type", "(II)I"⟩
abbrev cX11_wipe : ByteArray := prog_13_method_22_code
def yX11_wipe : MethodName := ⟨RX11, "wipe", "(I)I"⟩
abbrev cX11_undo : ByteArray := prog_13_method_23_code
def yX11_undo : MethodName := ⟨RX11, "undo", "(I)I"⟩
abbrev cX11_figureOf : ByteArray := prog_13_method_24_code
def yX11_figureOf : MethodName := ⟨RX11, "figureOf", "(III)I"⟩
abbrev cX11_postOf : ByteArray := prog_13_method_25_code
def yX11_postOf : MethodName := ⟨RX11, "postOf", "(II)I"⟩
abbrev cX11_readsPosts : ByteArray := prog_13_method_26_code
def yX11_readsPosts : MethodName := ⟨RX11, "readsPosts", "()I"⟩
abbrev cX11_personOf : ByteArray := prog_13_method_27_code
def yX11_personOf : MethodName := ⟨RX11, "personOf", "(II)I"⟩
abbrev cX11_readsPeople : ByteArray := prog_13_method_28_code
def yX11_readsPeople : MethodName := ⟨RX11, "readsPeople", "()I"⟩
abbrev cX11_readsText : ByteArray := prog_13_method_29_code
def yX11_readsText : MethodName := ⟨RX11, "readsText", "(I)I"⟩
abbrev cX11_fault : ByteArray := prog_13_method_30_code
def yX11_fault : MethodName := ⟨RX11, "fault", "(I)I"⟩
abbrev cX11_isPost : ByteArray := prog_13_method_31_code
def yX11_isPost : MethodName := ⟨RX11, "isPost", "(I)Z"⟩
abbrev cX11_isPerson : ByteArray := prog_13_method_32_code
def yX11_isPerson : MethodName := ⟨RX11, "isPerson", "(I)Z"⟩
abbrev cX11_isHour : ByteArray := prog_13_method_33_code
def yX11_isHour : MethodName := ⟨RX11, "isHour", "(I)Z"⟩
abbrev cX11_post : ByteArray := prog_13_method_34_code
def yX11_post : MethodName := ⟨RX11, "post", "(II)I"⟩
abbrev cX11_person : ByteArray := prog_13_method_35_code
def yX11_person : MethodName := ⟨RX11, "person", "(II)I"⟩
abbrev cX11_keeps : ByteArray := prog_13_method_36_code
def yX11_keeps : MethodName := ⟨RX11, "keeps", "(III)V"⟩
abbrev cX11_event : ByteArray := prog_13_method_37_code
def yX11_event : MethodName := ⟨RX11, "event", "(III)I"⟩
abbrev cX11_back : ByteArray := prog_13_method_38_code
def yX11_back : MethodName := ⟨RX11, "back", "()I"⟩
abbrev cX11_read : ByteArray := prog_13_method_39_code
def yX11_read : MethodName := ⟨RX11, "read", "(I)I"⟩
abbrev cX11_isTold : ByteArray := prog_13_method_40_code
def yX11_isTold : MethodName := ⟨RX11, "isTold", "(III)Z"⟩
abbrev cX11_goes : ByteArray := prog_13_method_41_code
def yX11_goes : MethodName := ⟨RX11, "goes", "(I)V"⟩
abbrev cX11_isSneezing : ByteArray := prog_13_method_42_code
def yX11_isSneezing : MethodName := ⟨RX11, "isSneezing", "(II)Z"⟩
abbrev cX11_heardBy : ByteArray := prog_13_method_43_code
def yX11_heardBy : MethodName := ⟨RX11, "heardBy", "(I)I"⟩
abbrev cX11_isCaught : ByteArray := prog_13_method_44_code
def yX11_isCaught : MethodName := ⟨RX11, "isCaught", "(I)Z"⟩
abbrev cX11_passes : ByteArray := prog_13_method_45_code
def yX11_passes : MethodName := ⟨RX11, "passes", "(I)V"⟩
abbrev cX11_lives : ByteArray := prog_13_method_46_code
def yX11_lives : MethodName := ⟨RX11, "lives", "()V"⟩
abbrev cX11_find : ByteArray := prog_13_method_47_code
def yX11_find : MethodName := ⟨RX11, "find", "()V"⟩
abbrev cX11_atBy : ByteArray := prog_13_method_48_code
def yX11_atBy : MethodName := ⟨RX11, "atBy", "(III)I"⟩
abbrev cX11_at : ByteArray := prog_13_method_49_code
def yX11_at : MethodName := ⟨RX11, "at", "(III)I"⟩
abbrev cX11_stoodOf : ByteArray := prog_13_method_50_code
def yX11_stoodOf : MethodName := ⟨RX11, "stoodOf", "(III)I"⟩
abbrev cX11_stood : ByteArray := prog_13_method_51_code
def yX11_stood : MethodName := ⟨RX11, "stood", "(III)I"⟩
abbrev cX11_changesIn : ByteArray := prog_13_method_52_code
def yX11_changesIn : MethodName := ⟨RX11, "changesIn", "(I)I"⟩
abbrev cX11_changes : ByteArray := prog_13_method_53_code
def yX11_changes : MethodName := ⟨RX11, "changes", "(I)I"⟩
abbrev cX11_forgottenNow : ByteArray := prog_13_method_54_code
def yX11_forgottenNow : MethodName := ⟨RX11, "forgottenNow", "()I"⟩
abbrev cX11_forgotten : ByteArray := prog_13_method_55_code
def yX11_forgotten : MethodName := ⟨RX11, "forgotten", "()I"⟩
abbrev cX11_longestBy : ByteArray := prog_13_method_56_code
def yX11_longestBy : MethodName := ⟨RX11, "longestBy", "(I)I"⟩
abbrev cX11_longest : ByteArray := prog_13_method_57_code
def yX11_longest : MethodName := ⟨RX11, "longest", "(I)I"⟩
abbrev cX11_allNow : ByteArray := prog_13_method_58_code
def yX11_allNow : MethodName := ⟨RX11, "allNow", "()I"⟩
abbrev cX11_all : ByteArray := prog_13_method_59_code
def yX11_all : MethodName := ⟨RX11, "all", "()I"⟩
abbrev cX11_busyNow : ByteArray := prog_13_method_60_code
def yX11_busyNow : MethodName := ⟨RX11, "busyNow", "()I"⟩
abbrev cX11_busy : ByteArray := prog_13_method_61_code
def yX11_busy : MethodName := ⟨RX11, "busy", "()I"⟩
abbrev cX11_quietNow : ByteArray := prog_13_method_62_code
def yX11_quietNow : MethodName := ⟨RX11, "quietNow", "()I"⟩
abbrev cX11_quiet : ByteArray := prog_13_method_63_code
def yX11_quiet : MethodName := ⟨RX11, "quiet", "()I"⟩
abbrev cX11_strollOf : ByteArray := prog_13_method_64_code
def yX11_strollOf : MethodName := ⟨RX11, "strollOf", "(II)I"⟩
abbrev cX11_stroll : ByteArray := prog_13_method_65_code
def yX11_stroll : MethodName := ⟨RX11, "stroll", "(II)I"⟩
abbrev cX11_dustOf : ByteArray := prog_13_method_66_code
def yX11_dustOf : MethodName := ⟨RX11, "dustOf", "(II)I"⟩
abbrev cX11_dust : ByteArray := prog_13_method_67_code
def yX11_dust : MethodName := ⟨RX11, "dust", "(II)I"⟩
abbrev cX11_hushOf : ByteArray := prog_13_method_68_code
def yX11_hushOf : MethodName := ⟨RX11, "hushOf", "(II)I"⟩
abbrev cX11_hush : ByteArray := prog_13_method_69_code
def yX11_hush : MethodName := ⟨RX11, "hush", "(II)I"⟩
abbrev cX11_isSpared : ByteArray := prog_13_method_70_code
def yX11_isSpared : MethodName := ⟨RX11, "isSpared", "(I)Z"⟩
abbrev cX11_spareBy : ByteArray := prog_13_method_71_code
def yX11_spareBy : MethodName := ⟨RX11, "spareBy", "(I)I"⟩
abbrev cX11_spare : ByteArray := prog_13_method_72_code
def yX11_spare : MethodName := ⟨RX11, "spare", "(I)I"⟩
abbrev cX11_seen : ByteArray := prog_13_method_73_code
def yX11_seen : MethodName := ⟨RX11, "seen", "(III)I"⟩
abbrev cX11_forget : ByteArray := prog_13_method_74_code
def yX11_forget : MethodName := ⟨RX11, "forget", "()I"⟩
abbrev cX11_isSeen : ByteArray := prog_13_method_75_code
def yX11_isSeen : MethodName := ⟨RX11, "isSeen", "()Z"⟩
abbrev cX11_neverNow : ByteArray := prog_13_method_76_code
def yX11_neverNow : MethodName := ⟨RX11, "neverNow", "()I"⟩
abbrev cX11_never : ByteArray := prog_13_method_77_code
def yX11_never : MethodName := ⟨RX11, "never", "()I"⟩
abbrev cX11_sortOf : ByteArray := prog_13_method_78_code
def yX11_sortOf : MethodName := ⟨RX11, "sortOf", "(I)I"⟩
abbrev cX11_coldsOf : ByteArray := prog_13_method_79_code
def yX11_coldsOf : MethodName := ⟨RX11, "coldsOf", "(I)I"⟩
abbrev cX11_wasOf : ByteArray := prog_13_method_80_code
def yX11_wasOf : MethodName := ⟨RX11, "wasOf", "(II)I"⟩
abbrev cX11_was : ByteArray := prog_13_method_81_code
def yX11_was : MethodName := ⟨RX11, "was", "(II)I"⟩
abbrev cX11_alike : ByteArray := prog_13_method_82_code
def yX11_alike : MethodName := ⟨RX11, "alike", "(II)I"⟩
abbrev cX11_askOf : ByteArray := prog_13_method_83_code
def yX11_askOf : MethodName := ⟨RX11, "askOf", "(I)I"⟩
abbrev cX11_ask : ByteArray := prog_13_method_84_code
def yX11_ask : MethodName := ⟨RX11, "ask", "(I)I"⟩
abbrev cX11_chanceOf : ByteArray := prog_13_method_85_code
def yX11_chanceOf : MethodName := ⟨RX11, "chanceOf", "(III)J"⟩
abbrev cX11_chance : ByteArray := prog_13_method_86_code
def yX11_chance : MethodName := ⟨RX11, "chance", "(III)J"⟩
abbrev cX11_lot : ByteArray := prog_13_method_87_code
def yX11_lot : MethodName := ⟨RX11, "lot", "(I)I"⟩
abbrev cX11_decadesOf : ByteArray := prog_13_method_88_code
def yX11_decadesOf : MethodName := ⟨RX11, "decadesOf", "(III)I"⟩
abbrev cX11_decades : ByteArray := prog_13_method_89_code
def yX11_decades : MethodName := ⟨RX11, "decades", "(III)I"⟩
abbrev cX11_write : ByteArray := prog_13_method_90_code
def yX11_write : MethodName := ⟨RX11, "write", "(II)I"⟩
abbrev cX11_count : ByteArray := prog_13_method_91_code
def yX11_count : MethodName := ⟨RX11, "count", "(I)I"⟩
abbrev cX11_tellsStood : ByteArray := prog_13_method_92_code
def yX11_tellsStood : MethodName := ⟨RX11, "tellsStood", "(JII)J"⟩
abbrev cX11_tellsPost : ByteArray := prog_13_method_93_code
def yX11_tellsPost : MethodName := ⟨RX11, "tellsPost", "(JI)J"⟩
abbrev cX11_tellsHour : ByteArray := prog_13_method_94_code
def yX11_tellsHour : MethodName := ⟨RX11, "tellsHour", "(JII)J"⟩
abbrev cX11_tellsPerson : ByteArray := prog_13_method_95_code
def yX11_tellsPerson : MethodName := ⟨RX11, "tellsPerson", "(JI)J"⟩
abbrev cX11_digest : ByteArray := prog_13_method_96_code
def yX11_digest : MethodName := ⟨RX11, "digest", "()J"⟩
def RJ11 : String := "java/lang/Character"
abbrev cJ11_isValidCodePoint_9a6ad : ByteArray := prog_14_method_11_code
def yJ11_isValidCodePoint_9a6ad : MethodName := ⟨RJ11, "isValidCodePoint", "(I)Z"⟩
abbrev cJ11_highSurrogate_5068e : ByteArray := prog_14_method_28_code
def yJ11_highSurrogate_5068e : MethodName := ⟨RJ11, "highSurrogate", "(I)C"⟩
abbrev cJ11_lowSurrogate_5068e : ByteArray := prog_14_method_29_code
def yJ11_lowSurrogate_5068e : MethodName := ⟨RJ11, "lowSurrogate", "(I)C"⟩
def RJ6 : String := "java/lang/Integer"
abbrev cJ6_bitCount_0f7a4 : ByteArray := prog_15_method_49_code
def yJ6_bitCount_0f7a4 : MethodName := ⟨RJ6, "bitCount", "(I)I"⟩
def RJ9 : String := "java/lang/Math"
abbrev cJ9_abs_0f7a4 : ByteArray := prog_16_method_59_code
def yJ9_abs_0f7a4 : MethodName := ⟨RJ9, "abs", "(I)I"⟩
abbrev cJ9_max_7cf53 : ByteArray := prog_16_method_65_code
def yJ9_max_7cf53 : MethodName := ⟨RJ9, "max", "(II)I"⟩
abbrev cJ9_min_7cf53 : ByteArray := prog_16_method_69_code
def yJ9_min_7cf53 : MethodName := ⟨RJ9, "min", "(II)I"⟩
def RJ0 : String := "java/lang/String"
abbrev cJ0_length_8abf5 : ByteArray := prog_17_method_54_code
def yJ0_length_8abf5 : MethodName := ⟨RJ0, "length", "()I"⟩
abbrev cJ0_indexOf_0f7a4 : ByteArray := prog_17_method_79_code
def yJ0_indexOf_0f7a4 : MethodName := ⟨RJ0, "indexOf", "(I)I"⟩
abbrev cJ0_indexOf_7cf53 : ByteArray := prog_17_method_80_code
def yJ0_indexOf_7cf53 : MethodName := ⟨RJ0, "indexOf", "(II)I"⟩
abbrev cJ0_coder_7d493 : ByteArray := prog_17_method_152_code
def yJ0_coder_7d493 : MethodName := ⟨RJ0, "coder", "()B"⟩
abbrev cJ0_isLatin1_aae02 : ByteArray := prog_17_method_154_code
def yJ0_isLatin1_aae02 : MethodName := ⟨RJ0, "isLatin1", "()Z"⟩
abbrev cJ0_checkBoundsBeginEnd_23922 : ByteArray := prog_17_method_158_code
def yJ0_checkBoundsBeginEnd_23922 : MethodName := ⟨RJ0, "checkBoundsBeginEnd", "(III)V"⟩
def RJ1 : String := "java/lang/StringLatin1"
abbrev cJ1_canEncode_9a6ad : ByteArray := prog_18_method_4_code
def yJ1_canEncode_9a6ad : MethodName := ⟨RJ1, "canEncode", "(I)Z"⟩
abbrev cJ1_indexOf_4cfef : ByteArray := prog_18_method_22_code
def yJ1_indexOf_4cfef : MethodName := ⟨RJ1, "indexOf", "([BIII)I"⟩
abbrev cJ1_indexOfChar_4cfef : ByteArray := prog_18_method_23_code
def yJ1_indexOfChar_4cfef : MethodName := ⟨RJ1, "indexOfChar", "([BIII)I"⟩
def RJ2 : String := "java/lang/StringUTF16"
abbrev cJ2_getChar_3b067 : ByteArray := prog_19_method_5_code
def yJ2_getChar_3b067 : MethodName := ⟨RJ2, "getChar", "([BI)C"⟩
abbrev cJ2_length_9d52b : ByteArray := prog_19_method_6_code
def yJ2_length_9d52b : MethodName := ⟨RJ2, "length", "([B)I"⟩
abbrev cJ2_indexOf_4cfef : ByteArray := prog_19_method_40_code
def yJ2_indexOf_4cfef : MethodName := ⟨RJ2, "indexOf", "([BIII)I"⟩
abbrev cJ2_indexOfChar_4cfef : ByteArray := prog_19_method_47_code
def yJ2_indexOfChar_4cfef : MethodName := ⟨RJ2, "indexOfChar", "([BIII)I"⟩
abbrev cJ2_indexOfCharUnsafe_4cfef : ByteArray := prog_19_method_48_code
def yJ2_indexOfCharUnsafe_4cfef : MethodName := ⟨RJ2, "indexOfCharUnsafe", "([BIII)I"⟩
abbrev cJ2_indexOfSupplementary_4cfef : ByteArray := prog_19_method_49_code
def yJ2_indexOfSupplementary_4cfef : MethodName := ⟨RJ2, "indexOfSupplementary", "([BIII)I"⟩
abbrev cJ2_checkBoundsBeginEnd_d044e : ByteArray := prog_19_method_93_code
def yJ2_checkBoundsBeginEnd_d044e : MethodName := ⟨RJ2, "checkBoundsBeginEnd", "(II[B)V"⟩
def RJ10 : String := "java/lang/System"
def RJ7 : String := "java/util/Arrays"
abbrev cJ7_fill_53178 : ByteArray := prog_21_method_103_code
def yJ7_fill_53178 : MethodName := ⟨RJ7, "fill", "([II)V"⟩
def RJ3 : String := "jdk/internal/util/Preconditions"
abbrev cJ3_checkFromToIndex_8c36e : ByteArray := prog_22_method_12_code
def yJ3_checkFromToIndex_8c36e : MethodName := ⟨RJ3, "checkFromToIndex", "(IIILjava/util/function/BiFunction;)I"⟩
def RL : String := "SneezeGuardLaw"
abbrev cL_law : ByteArray := code
def yL_law : MethodName := ⟨RL, "law", "([I)Z"⟩
abbrev vwCl : List vw_C := [(RX0, TX0, 4), (RX1, TX1, 17), (RX2, TX2, 4), (RX3, TX3, 6), (RX4, TX4, 8), (RX5, TX5, 5), (RX6, TX6, 4), (RX7, TX7, 4), (RX8, TX8, 9), (RX9, TX9, 3), (RX10, TX10, 5), (RX11, TX11, 37)]
/-- the words that every method of ours has: those of the tables that keep -/
def sg_GT : List Cond := lw_tbl.filter goodWord
theorem sg_good : GoodIn lw_tbl sg_GT := fun w h => ⟨(List.mem_filter.mp h).1, good_of_word (List.mem_filter.mp h).2⟩
theorem sg_goodGT : GoodIn sg_GT sg_GT := fun w h => ⟨h, good_of_word (List.mem_filter.mp h).2⟩
theorem sg_inGT {w : Cond} (h : w ∈ tables_1) (hg : goodWord w = true) : w ∈ sg_GT := List.mem_filter.mpr ⟨List.mem_append_right _ h, hg⟩
