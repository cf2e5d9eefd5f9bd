section
-- ===== PART A: goes FIRST, ahead of the names: the tables' words, and 'selects' of the private methods out of them =====
/-- a private method of a class that the tables say can be made, by its rows of tables_1 -/
def lw_okq (q : MethodName × Nat) : Prop := (q.1.cls ≠ "java/lang/invoke/MethodHandle" ∧ q.1.cls ≠ "java/lang/invoke/VarHandle") ∧ Cond.instantiable q.1.cls q.2 ∈ tables_1 ∧ Cond.privateMethod q.1 ∈ tables_1 ∧ Cond.instanceMethod q.1 ∈ tables_1
theorem lw_p0 : lw_okq (⟨"SneezeGuard$Text", "signs", "(I)Ljava/lang/String;"⟩, 4) := ⟨⟨by decide +kernel, by decide +kernel⟩, List.mem_of_getElem? (i := 37) (by decide +kernel), List.mem_of_getElem? (i := 250) (by decide +kernel), List.mem_of_getElem? (i := 251) (by decide +kernel)⟩
theorem lw_p1 : lw_okq (⟨"SneezeGuard$Wall", "hearersByDistance", "(II)I"⟩, 9) := ⟨⟨by decide +kernel, by decide +kernel⟩, List.mem_of_getElem? (i := 58) (by decide +kernel), List.mem_of_getElem? (i := 362) (by decide +kernel), List.mem_of_getElem? (i := 363) (by decide +kernel)⟩
theorem lw_p2 : lw_okq (⟨"SneezeGuard$Weather", "add", "(III)V"⟩, 3) := ⟨⟨by decide +kernel, by decide +kernel⟩, List.mem_of_getElem? (i := 139) (by decide +kernel), List.mem_of_getElem? (i := 389) (by decide +kernel), List.mem_of_getElem? (i := 390) (by decide +kernel)⟩
theorem lw_p3 : lw_okq (⟨"SneezeGuard$Day", "begin", "()V"⟩, 17) := ⟨⟨by decide +kernel, by decide +kernel⟩, List.mem_of_getElem? (i := 161) (by decide +kernel), List.mem_of_getElem? (i := 400) (by decide +kernel), List.mem_of_getElem? (i := 401) (by decide +kernel)⟩
theorem lw_p4 : lw_okq (⟨"SneezeGuard$Day", "walk", "(I)V"⟩, 17) := ⟨⟨by decide +kernel, by decide +kernel⟩, List.mem_of_getElem? (i := 161) (by decide +kernel), List.mem_of_getElem? (i := 405) (by decide +kernel), List.mem_of_getElem? (i := 406) (by decide +kernel)⟩
theorem lw_p5 : lw_okq (⟨"SneezeGuard$Day", "sneeze", "(I)V"⟩, 17) := ⟨⟨by decide +kernel, by decide +kernel⟩, List.mem_of_getElem? (i := 161) (by decide +kernel), List.mem_of_getElem? (i := 410) (by decide +kernel), List.mem_of_getElem? (i := 411) (by decide +kernel)⟩
theorem lw_p6 : lw_okq (⟨"SneezeGuard$Day", "changeGuard", "(I)V"⟩, 17) := ⟨⟨by decide +kernel, by decide +kernel⟩, List.mem_of_getElem? (i := 161) (by decide +kernel), List.mem_of_getElem? (i := 418) (by decide +kernel), List.mem_of_getElem? (i := 419) (by decide +kernel)⟩
theorem lw_p7 : lw_okq (⟨"SneezeGuard$Day", "stand", "(I)V"⟩, 17) := ⟨⟨by decide +kernel, by decide +kernel⟩, List.mem_of_getElem? (i := 161) (by decide +kernel), List.mem_of_getElem? (i := 432) (by decide +kernel), List.mem_of_getElem? (i := 433) (by decide +kernel)⟩
theorem lw_p8 : lw_okq (⟨"SneezeGuard$Day", "spreadColds", "(I)V"⟩, 17) := ⟨⟨by decide +kernel, by decide +kernel⟩, List.mem_of_getElem? (i := 161) (by decide +kernel), List.mem_of_getElem? (i := 436) (by decide +kernel), List.mem_of_getElem? (i := 437) (by decide +kernel)⟩
theorem lw_p9 : lw_okq (⟨"SneezeGuard$Day", "othersInCellOf", "(I)I"⟩, 17) := ⟨⟨by decide +kernel, by decide +kernel⟩, List.mem_of_getElem? (i := 161) (by decide +kernel), List.mem_of_getElem? (i := 440) (by decide +kernel), List.mem_of_getElem? (i := 441) (by decide +kernel)⟩
theorem lw_p10 : lw_okq (⟨"SneezeGuard", "isPost", "(I)Z"⟩, 5) := ⟨⟨by decide +kernel, by decide +kernel⟩, List.mem_of_getElem? (i := 23) (by decide +kernel), List.mem_of_getElem? (i := 638) (by decide +kernel), List.mem_of_getElem? (i := 639) (by decide +kernel)⟩
theorem lw_p11 : lw_okq (⟨"SneezeGuard", "isPerson", "(I)Z"⟩, 5) := ⟨⟨by decide +kernel, by decide +kernel⟩, List.mem_of_getElem? (i := 23) (by decide +kernel), List.mem_of_getElem? (i := 646) (by decide +kernel), List.mem_of_getElem? (i := 647) (by decide +kernel)⟩
theorem lw_p12 : lw_okq (⟨"SneezeGuard$Sheets", "found", "(I)I"⟩, 4) := ⟨⟨by decide +kernel, by decide +kernel⟩, List.mem_of_getElem? (i := 561) (by decide +kernel), List.mem_of_getElem? (i := 675) (by decide +kernel), List.mem_of_getElem? (i := 676) (by decide +kernel)⟩
theorem lw_p13 : lw_okq (⟨"SneezeGuard$Plans", "setSpare", "(III)V"⟩, 5) := ⟨⟨by decide +kernel, by decide +kernel⟩, List.mem_of_getElem? (i := 485) (by decide +kernel), List.mem_of_getElem? (i := 768) (by decide +kernel), List.mem_of_getElem? (i := 769) (by decide +kernel)⟩
theorem lw_p14 : lw_okq (⟨"SneezeGuard$Hindsight", "comesOutSo", "()Z"⟩, 6) := ⟨⟨by decide +kernel, by decide +kernel⟩, List.mem_of_getElem? (i := 511) (by decide +kernel), List.mem_of_getElem? (i := 803) (by decide +kernel), List.mem_of_getElem? (i := 804) (by decide +kernel)⟩
theorem lw_p15 : lw_okq (⟨"SneezeGuard$Hindsight", "mostAlike", "(II)I"⟩, 6) := ⟨⟨by decide +kernel, by decide +kernel⟩, List.mem_of_getElem? (i := 511) (by decide +kernel), List.mem_of_getElem? (i := 832) (by decide +kernel), List.mem_of_getElem? (i := 833) (by decide +kernel)⟩
def lw_privs_1 : List (MethodName × Nat) := [(⟨"SneezeGuard$Text", "signs", "(I)Ljava/lang/String;"⟩, 4), (⟨"SneezeGuard$Wall", "hearersByDistance", "(II)I"⟩, 9), (⟨"SneezeGuard$Weather", "add", "(III)V"⟩, 3), (⟨"SneezeGuard$Day", "begin", "()V"⟩, 17), (⟨"SneezeGuard$Day", "walk", "(I)V"⟩, 17), (⟨"SneezeGuard$Day", "sneeze", "(I)V"⟩, 17), (⟨"SneezeGuard$Day", "changeGuard", "(I)V"⟩, 17), (⟨"SneezeGuard$Day", "stand", "(I)V"⟩, 17), (⟨"SneezeGuard$Day", "spreadColds", "(I)V"⟩, 17), (⟨"SneezeGuard$Day", "othersInCellOf", "(I)I"⟩, 17), (⟨"SneezeGuard", "isPost", "(I)Z"⟩, 5), (⟨"SneezeGuard", "isPerson", "(I)Z"⟩, 5), (⟨"SneezeGuard$Sheets", "found", "(I)I"⟩, 4), (⟨"SneezeGuard$Plans", "setSpare", "(III)V"⟩, 5), (⟨"SneezeGuard$Hindsight", "comesOutSo", "()Z"⟩, 6), (⟨"SneezeGuard$Hindsight", "mostAlike", "(II)I"⟩, 6)]
theorem lw_r1 : ∀ q ∈ lw_privs_1, lw_okq q := List.forall_mem_cons.mpr ⟨lw_p0, List.forall_mem_cons.mpr ⟨lw_p1, List.forall_mem_cons.mpr ⟨lw_p2, List.forall_mem_cons.mpr ⟨lw_p3, List.forall_mem_cons.mpr ⟨lw_p4, List.forall_mem_cons.mpr ⟨lw_p5, List.forall_mem_cons.mpr ⟨lw_p6, List.forall_mem_cons.mpr ⟨lw_p7, List.forall_mem_cons.mpr ⟨lw_p8, List.forall_mem_cons.mpr ⟨lw_p9, List.forall_mem_cons.mpr ⟨lw_p10, List.forall_mem_cons.mpr ⟨lw_p11, List.forall_mem_cons.mpr ⟨lw_p12, List.forall_mem_cons.mpr ⟨lw_p13, List.forall_mem_cons.mpr ⟨lw_p14, List.forall_mem_cons.mpr ⟨lw_p15, fun _ h => absurd h List.not_mem_nil⟩⟩⟩⟩⟩⟩⟩⟩⟩⟩⟩⟩⟩⟩⟩⟩
theorem lw_p16 : lw_okq (⟨"SneezeGuard$Chances", "weigh", "(II)V"⟩, 4) := ⟨⟨by decide +kernel, by decide +kernel⟩, List.mem_of_getElem? (i := 539) (by decide +kernel), List.mem_of_getElem? (i := 847) (by decide +kernel), List.mem_of_getElem? (i := 848) (by decide +kernel)⟩
theorem lw_p17 : lw_okq (⟨"SneezeGuard$Chances", "lotOf", "(I)I"⟩, 4) := ⟨⟨by decide +kernel, by decide +kernel⟩, List.mem_of_getElem? (i := 539) (by decide +kernel), List.mem_of_getElem? (i := 863) (by decide +kernel), List.mem_of_getElem? (i := 864) (by decide +kernel)⟩
theorem lw_p18 : lw_okq (⟨"SneezeGuard", "digestPost", "(JI)J"⟩, 5) := ⟨⟨by decide +kernel, by decide +kernel⟩, List.mem_of_getElem? (i := 23) (by decide +kernel), List.mem_of_getElem? (i := 934) (by decide +kernel), List.mem_of_getElem? (i := 935) (by decide +kernel)⟩
theorem lw_p19 : lw_okq (⟨"SneezeGuard", "digestPerson", "(JI)J"⟩, 5) := ⟨⟨by decide +kernel, by decide +kernel⟩, List.mem_of_getElem? (i := 23) (by decide +kernel), List.mem_of_getElem? (i := 943) (by decide +kernel), List.mem_of_getElem? (i := 944) (by decide +kernel)⟩
theorem lw_p20 : lw_okq (⟨"SneezeGuard", "digestRest", "(J)J"⟩, 5) := ⟨⟨by decide +kernel, by decide +kernel⟩, List.mem_of_getElem? (i := 23) (by decide +kernel), List.mem_of_getElem? (i := 952) (by decide +kernel), List.mem_of_getElem? (i := 953) (by decide +kernel)⟩
theorem lw_p21 : lw_okq (⟨"SneezeGuardModel", "finds", "(I)I"⟩, 37) := ⟨⟨by decide +kernel, by decide +kernel⟩, List.mem_of_getElem? (i := 965) (by decide +kernel), List.mem_of_getElem? (i := 1095) (by decide +kernel), List.mem_of_getElem? (i := 1096) (by decide +kernel)⟩
theorem lw_p22 : lw_okq (⟨"SneezeGuardModel", "lacks", "(III)I"⟩, 37) := ⟨⟨by decide +kernel, by decide +kernel⟩, List.mem_of_getElem? (i := 965) (by decide +kernel), List.mem_of_getElem? (i := 1107) (by decide +kernel), List.mem_of_getElem? (i := 1108) (by decide +kernel)⟩
theorem lw_p23 : lw_okq (⟨"SneezeGuardModel", "readsText", "(I)I"⟩, 37) := ⟨⟨by decide +kernel, by decide +kernel⟩, List.mem_of_getElem? (i := 965) (by decide +kernel), List.mem_of_getElem? (i := 1143) (by decide +kernel), List.mem_of_getElem? (i := 1144) (by decide +kernel)⟩
theorem lw_p24 : lw_okq (⟨"SneezeGuardModel", "readsPosts", "()I"⟩, 37) := ⟨⟨by decide +kernel, by decide +kernel⟩, List.mem_of_getElem? (i := 965) (by decide +kernel), List.mem_of_getElem? (i := 1147) (by decide +kernel), List.mem_of_getElem? (i := 1148) (by decide +kernel)⟩
theorem lw_p25 : lw_okq (⟨"SneezeGuardModel", "readsPeople", "()I"⟩, 37) := ⟨⟨by decide +kernel, by decide +kernel⟩, List.mem_of_getElem? (i := 965) (by decide +kernel), List.mem_of_getElem? (i := 1157) (by decide +kernel), List.mem_of_getElem? (i := 1158) (by decide +kernel)⟩
theorem lw_p26 : lw_okq (⟨"SneezeGuardModel", "isPost", "(I)Z"⟩, 37) := ⟨⟨by decide +kernel, by decide +kernel⟩, List.mem_of_getElem? (i := 965) (by decide +kernel), List.mem_of_getElem? (i := 1168) (by decide +kernel), List.mem_of_getElem? (i := 1169) (by decide +kernel)⟩
theorem lw_p27 : lw_okq (⟨"SneezeGuardModel", "isPerson", "(I)Z"⟩, 37) := ⟨⟨by decide +kernel, by decide +kernel⟩, List.mem_of_getElem? (i := 965) (by decide +kernel), List.mem_of_getElem? (i := 1176) (by decide +kernel), List.mem_of_getElem? (i := 1177) (by decide +kernel)⟩
theorem lw_p28 : lw_okq (⟨"SneezeGuardModel", "keeps", "(III)V"⟩, 37) := ⟨⟨by decide +kernel, by decide +kernel⟩, List.mem_of_getElem? (i := 965) (by decide +kernel), List.mem_of_getElem? (i := 1189) (by decide +kernel), List.mem_of_getElem? (i := 1190) (by decide +kernel)⟩
theorem lw_p29 : lw_okq (⟨"SneezeGuardModel", "find", "()V"⟩, 37) := ⟨⟨by decide +kernel, by decide +kernel⟩, List.mem_of_getElem? (i := 965) (by decide +kernel), List.mem_of_getElem? (i := 1206) (by decide +kernel), List.mem_of_getElem? (i := 1207) (by decide +kernel)⟩
theorem lw_p30 : lw_okq (⟨"SneezeGuardModel", "lives", "()V"⟩, 37) := ⟨⟨by decide +kernel, by decide +kernel⟩, List.mem_of_getElem? (i := 965) (by decide +kernel), List.mem_of_getElem? (i := 1210) (by decide +kernel), List.mem_of_getElem? (i := 1211) (by decide +kernel)⟩
theorem lw_p31 : lw_okq (⟨"SneezeGuardModel", "passes", "(I)V"⟩, 37) := ⟨⟨by decide +kernel, by decide +kernel⟩, List.mem_of_getElem? (i := 965) (by decide +kernel), List.mem_of_getElem? (i := 1214) (by decide +kernel), List.mem_of_getElem? (i := 1215) (by decide +kernel)⟩
def lw_privs_2 : List (MethodName × Nat) := [(⟨"SneezeGuard$Chances", "weigh", "(II)V"⟩, 4), (⟨"SneezeGuard$Chances", "lotOf", "(I)I"⟩, 4), (⟨"SneezeGuard", "digestPost", "(JI)J"⟩, 5), (⟨"SneezeGuard", "digestPerson", "(JI)J"⟩, 5), (⟨"SneezeGuard", "digestRest", "(J)J"⟩, 5), (⟨"SneezeGuardModel", "finds", "(I)I"⟩, 37), (⟨"SneezeGuardModel", "lacks", "(III)I"⟩, 37), (⟨"SneezeGuardModel", "readsText", "(I)I"⟩, 37), (⟨"SneezeGuardModel", "readsPosts", "()I"⟩, 37), (⟨"SneezeGuardModel", "readsPeople", "()I"⟩, 37), (⟨"SneezeGuardModel", "isPost", "(I)Z"⟩, 37), (⟨"SneezeGuardModel", "isPerson", "(I)Z"⟩, 37), (⟨"SneezeGuardModel", "keeps", "(III)V"⟩, 37), (⟨"SneezeGuardModel", "find", "()V"⟩, 37), (⟨"SneezeGuardModel", "lives", "()V"⟩, 37), (⟨"SneezeGuardModel", "passes", "(I)V"⟩, 37)]
theorem lw_r2 : ∀ q ∈ lw_privs_2, lw_okq q := List.forall_mem_cons.mpr ⟨lw_p16, List.forall_mem_cons.mpr ⟨lw_p17, List.forall_mem_cons.mpr ⟨lw_p18, List.forall_mem_cons.mpr ⟨lw_p19, List.forall_mem_cons.mpr ⟨lw_p20, List.forall_mem_cons.mpr ⟨lw_p21, List.forall_mem_cons.mpr ⟨lw_p22, List.forall_mem_cons.mpr ⟨lw_p23, List.forall_mem_cons.mpr ⟨lw_p24, List.forall_mem_cons.mpr ⟨lw_p25, List.forall_mem_cons.mpr ⟨lw_p26, List.forall_mem_cons.mpr ⟨lw_p27, List.forall_mem_cons.mpr ⟨lw_p28, List.forall_mem_cons.mpr ⟨lw_p29, List.forall_mem_cons.mpr ⟨lw_p30, List.forall_mem_cons.mpr ⟨lw_p31, fun _ h => absurd h List.not_mem_nil⟩⟩⟩⟩⟩⟩⟩⟩⟩⟩⟩⟩⟩⟩⟩⟩
theorem lw_p32 : lw_okq (⟨"SneezeGuardModel", "goes", "(I)V"⟩, 37) := ⟨⟨by decide +kernel, by decide +kernel⟩, List.mem_of_getElem? (i := 965) (by decide +kernel), List.mem_of_getElem? (i := 1218) (by decide +kernel), List.mem_of_getElem? (i := 1219) (by decide +kernel)⟩
theorem lw_p33 : lw_okq (⟨"SneezeGuardModel", "isSneezing", "(II)Z"⟩, 37) := ⟨⟨by decide +kernel, by decide +kernel⟩, List.mem_of_getElem? (i := 965) (by decide +kernel), List.mem_of_getElem? (i := 1222) (by decide +kernel), List.mem_of_getElem? (i := 1223) (by decide +kernel)⟩
theorem lw_p34 : lw_okq (⟨"SneezeGuardModel", "isTold", "(III)Z"⟩, 37) := ⟨⟨by decide +kernel, by decide +kernel⟩, List.mem_of_getElem? (i := 965) (by decide +kernel), List.mem_of_getElem? (i := 1226) (by decide +kernel), List.mem_of_getElem? (i := 1227) (by decide +kernel)⟩
theorem lw_p35 : lw_okq (⟨"SneezeGuardModel", "heardBy", "(I)I"⟩, 37) := ⟨⟨by decide +kernel, by decide +kernel⟩, List.mem_of_getElem? (i := 965) (by decide +kernel), List.mem_of_getElem? (i := 1233) (by decide +kernel), List.mem_of_getElem? (i := 1234) (by decide +kernel)⟩
theorem lw_p36 : lw_okq (⟨"SneezeGuardModel", "isCaught", "(I)Z"⟩, 37) := ⟨⟨by decide +kernel, by decide +kernel⟩, List.mem_of_getElem? (i := 965) (by decide +kernel), List.mem_of_getElem? (i := 1240) (by decide +kernel), List.mem_of_getElem? (i := 1241) (by decide +kernel)⟩
theorem lw_p37 : lw_okq (⟨"SneezeGuardModel", "atBy", "(III)I"⟩, 37) := ⟨⟨by decide +kernel, by decide +kernel⟩, List.mem_of_getElem? (i := 965) (by decide +kernel), List.mem_of_getElem? (i := 1244) (by decide +kernel), List.mem_of_getElem? (i := 1245) (by decide +kernel)⟩
theorem lw_p38 : lw_okq (⟨"SneezeGuardModel", "stoodOf", "(III)I"⟩, 37) := ⟨⟨by decide +kernel, by decide +kernel⟩, List.mem_of_getElem? (i := 965) (by decide +kernel), List.mem_of_getElem? (i := 1252) (by decide +kernel), List.mem_of_getElem? (i := 1253) (by decide +kernel)⟩
theorem lw_p39 : lw_okq (⟨"SneezeGuardModel", "changesIn", "(I)I"⟩, 37) := ⟨⟨by decide +kernel, by decide +kernel⟩, List.mem_of_getElem? (i := 965) (by decide +kernel), List.mem_of_getElem? (i := 1260) (by decide +kernel), List.mem_of_getElem? (i := 1261) (by decide +kernel)⟩
theorem lw_p40 : lw_okq (⟨"SneezeGuardModel", "forgottenNow", "()I"⟩, 37) := ⟨⟨by decide +kernel, by decide +kernel⟩, List.mem_of_getElem? (i := 965) (by decide +kernel), List.mem_of_getElem? (i := 1268) (by decide +kernel), List.mem_of_getElem? (i := 1269) (by decide +kernel)⟩
theorem lw_p41 : lw_okq (⟨"SneezeGuardModel", "longestBy", "(I)I"⟩, 37) := ⟨⟨by decide +kernel, by decide +kernel⟩, List.mem_of_getElem? (i := 965) (by decide +kernel), List.mem_of_getElem? (i := 1276) (by decide +kernel), List.mem_of_getElem? (i := 1277) (by decide +kernel)⟩
theorem lw_p42 : lw_okq (⟨"SneezeGuardModel", "allNow", "()I"⟩, 37) := ⟨⟨by decide +kernel, by decide +kernel⟩, List.mem_of_getElem? (i := 965) (by decide +kernel), List.mem_of_getElem? (i := 1287) (by decide +kernel), List.mem_of_getElem? (i := 1288) (by decide +kernel)⟩
theorem lw_p43 : lw_okq (⟨"SneezeGuardModel", "busyNow", "()I"⟩, 37) := ⟨⟨by decide +kernel, by decide +kernel⟩, List.mem_of_getElem? (i := 965) (by decide +kernel), List.mem_of_getElem? (i := 1295) (by decide +kernel), List.mem_of_getElem? (i := 1296) (by decide +kernel)⟩
theorem lw_p44 : lw_okq (⟨"SneezeGuardModel", "quietNow", "()I"⟩, 37) := ⟨⟨by decide +kernel, by decide +kernel⟩, List.mem_of_getElem? (i := 965) (by decide +kernel), List.mem_of_getElem? (i := 1303) (by decide +kernel), List.mem_of_getElem? (i := 1304) (by decide +kernel)⟩
theorem lw_p45 : lw_okq (⟨"SneezeGuardModel", "strollOf", "(II)I"⟩, 37) := ⟨⟨by decide +kernel, by decide +kernel⟩, List.mem_of_getElem? (i := 965) (by decide +kernel), List.mem_of_getElem? (i := 1311) (by decide +kernel), List.mem_of_getElem? (i := 1312) (by decide +kernel)⟩
theorem lw_p46 : lw_okq (⟨"SneezeGuardModel", "dustOf", "(II)I"⟩, 37) := ⟨⟨by decide +kernel, by decide +kernel⟩, List.mem_of_getElem? (i := 965) (by decide +kernel), List.mem_of_getElem? (i := 1322) (by decide +kernel), List.mem_of_getElem? (i := 1323) (by decide +kernel)⟩
theorem lw_p47 : lw_okq (⟨"SneezeGuardModel", "hushOf", "(II)I"⟩, 37) := ⟨⟨by decide +kernel, by decide +kernel⟩, List.mem_of_getElem? (i := 965) (by decide +kernel), List.mem_of_getElem? (i := 1330) (by decide +kernel), List.mem_of_getElem? (i := 1331) (by decide +kernel)⟩
def lw_privs_3 : List (MethodName × Nat) := [(⟨"SneezeGuardModel", "goes", "(I)V"⟩, 37), (⟨"SneezeGuardModel", "isSneezing", "(II)Z"⟩, 37), (⟨"SneezeGuardModel", "isTold", "(III)Z"⟩, 37), (⟨"SneezeGuardModel", "heardBy", "(I)I"⟩, 37), (⟨"SneezeGuardModel", "isCaught", "(I)Z"⟩, 37), (⟨"SneezeGuardModel", "atBy", "(III)I"⟩, 37), (⟨"SneezeGuardModel", "stoodOf", "(III)I"⟩, 37), (⟨"SneezeGuardModel", "changesIn", "(I)I"⟩, 37), (⟨"SneezeGuardModel", "forgottenNow", "()I"⟩, 37), (⟨"SneezeGuardModel", "longestBy", "(I)I"⟩, 37), (⟨"SneezeGuardModel", "allNow", "()I"⟩, 37), (⟨"SneezeGuardModel", "busyNow", "()I"⟩, 37), (⟨"SneezeGuardModel", "quietNow", "()I"⟩, 37), (⟨"SneezeGuardModel", "strollOf", "(II)I"⟩, 37), (⟨"SneezeGuardModel", "dustOf", "(II)I"⟩, 37), (⟨"SneezeGuardModel", "hushOf", "(II)I"⟩, 37)]
theorem lw_r3 : ∀ q ∈ lw_privs_3, lw_okq q := List.forall_mem_cons.mpr ⟨lw_p32, List.forall_mem_cons.mpr ⟨lw_p33, List.forall_mem_cons.mpr ⟨lw_p34, List.forall_mem_cons.mpr ⟨lw_p35, List.forall_mem_cons.mpr ⟨lw_p36, List.forall_mem_cons.mpr ⟨lw_p37, List.forall_mem_cons.mpr ⟨lw_p38, List.forall_mem_cons.mpr ⟨lw_p39, List.forall_mem_cons.mpr ⟨lw_p40, List.forall_mem_cons.mpr ⟨lw_p41, List.forall_mem_cons.mpr ⟨lw_p42, List.forall_mem_cons.mpr ⟨lw_p43, List.forall_mem_cons.mpr ⟨lw_p44, List.forall_mem_cons.mpr ⟨lw_p45, List.forall_mem_cons.mpr ⟨lw_p46, List.forall_mem_cons.mpr ⟨lw_p47, fun _ h => absurd h List.not_mem_nil⟩⟩⟩⟩⟩⟩⟩⟩⟩⟩⟩⟩⟩⟩⟩⟩
theorem lw_p48 : lw_okq (⟨"SneezeGuardModel", "spareBy", "(I)I"⟩, 37) := ⟨⟨by decide +kernel, by decide +kernel⟩, List.mem_of_getElem? (i := 965) (by decide +kernel), List.mem_of_getElem? (i := 1339) (by decide +kernel), List.mem_of_getElem? (i := 1340) (by decide +kernel)⟩
theorem lw_p49 : lw_okq (⟨"SneezeGuardModel", "isSpared", "(I)Z"⟩, 37) := ⟨⟨by decide +kernel, by decide +kernel⟩, List.mem_of_getElem? (i := 965) (by decide +kernel), List.mem_of_getElem? (i := 1343) (by decide +kernel), List.mem_of_getElem? (i := 1344) (by decide +kernel)⟩
theorem lw_p50 : lw_okq (⟨"SneezeGuardModel", "neverNow", "()I"⟩, 37) := ⟨⟨by decide +kernel, by decide +kernel⟩, List.mem_of_getElem? (i := 965) (by decide +kernel), List.mem_of_getElem? (i := 1360) (by decide +kernel), List.mem_of_getElem? (i := 1361) (by decide +kernel)⟩
theorem lw_p51 : lw_okq (⟨"SneezeGuardModel", "isSeen", "()Z"⟩, 37) := ⟨⟨by decide +kernel, by decide +kernel⟩, List.mem_of_getElem? (i := 965) (by decide +kernel), List.mem_of_getElem? (i := 1364) (by decide +kernel), List.mem_of_getElem? (i := 1365) (by decide +kernel)⟩
theorem lw_p52 : lw_okq (⟨"SneezeGuardModel", "wasOf", "(II)I"⟩, 37) := ⟨⟨by decide +kernel, by decide +kernel⟩, List.mem_of_getElem? (i := 965) (by decide +kernel), List.mem_of_getElem? (i := 1372) (by decide +kernel), List.mem_of_getElem? (i := 1373) (by decide +kernel)⟩
theorem lw_p53 : lw_okq (⟨"SneezeGuardModel", "sortOf", "(I)I"⟩, 37) := ⟨⟨by decide +kernel, by decide +kernel⟩, List.mem_of_getElem? (i := 965) (by decide +kernel), List.mem_of_getElem? (i := 1376) (by decide +kernel), List.mem_of_getElem? (i := 1377) (by decide +kernel)⟩
theorem lw_p54 : lw_okq (⟨"SneezeGuardModel", "coldsOf", "(I)I"⟩, 37) := ⟨⟨by decide +kernel, by decide +kernel⟩, List.mem_of_getElem? (i := 965) (by decide +kernel), List.mem_of_getElem? (i := 1380) (by decide +kernel), List.mem_of_getElem? (i := 1381) (by decide +kernel)⟩
theorem lw_p55 : lw_okq (⟨"SneezeGuardModel", "askOf", "(I)I"⟩, 37) := ⟨⟨by decide +kernel, by decide +kernel⟩, List.mem_of_getElem? (i := 965) (by decide +kernel), List.mem_of_getElem? (i := 1388) (by decide +kernel), List.mem_of_getElem? (i := 1389) (by decide +kernel)⟩
theorem lw_p56 : lw_okq (⟨"SneezeGuardModel", "alike", "(II)I"⟩, 37) := ⟨⟨by decide +kernel, by decide +kernel⟩, List.mem_of_getElem? (i := 965) (by decide +kernel), List.mem_of_getElem? (i := 1392) (by decide +kernel), List.mem_of_getElem? (i := 1393) (by decide +kernel)⟩
theorem lw_p57 : lw_okq (⟨"SneezeGuardModel", "chanceOf", "(III)J"⟩, 37) := ⟨⟨by decide +kernel, by decide +kernel⟩, List.mem_of_getElem? (i := 965) (by decide +kernel), List.mem_of_getElem? (i := 1401) (by decide +kernel), List.mem_of_getElem? (i := 1402) (by decide +kernel)⟩
theorem lw_p58 : lw_okq (⟨"SneezeGuardModel", "decadesOf", "(III)I"⟩, 37) := ⟨⟨by decide +kernel, by decide +kernel⟩, List.mem_of_getElem? (i := 965) (by decide +kernel), List.mem_of_getElem? (i := 1417) (by decide +kernel), List.mem_of_getElem? (i := 1418) (by decide +kernel)⟩
theorem lw_p59 : lw_okq (⟨"SneezeGuardModel", "lot", "(I)I"⟩, 37) := ⟨⟨by decide +kernel, by decide +kernel⟩, List.mem_of_getElem? (i := 965) (by decide +kernel), List.mem_of_getElem? (i := 1421) (by decide +kernel), List.mem_of_getElem? (i := 1422) (by decide +kernel)⟩
theorem lw_p60 : lw_okq (⟨"SneezeGuardModel", "tellsPost", "(JI)J"⟩, 37) := ⟨⟨by decide +kernel, by decide +kernel⟩, List.mem_of_getElem? (i := 965) (by decide +kernel), List.mem_of_getElem? (i := 1444) (by decide +kernel), List.mem_of_getElem? (i := 1445) (by decide +kernel)⟩
theorem lw_p61 : lw_okq (⟨"SneezeGuardModel", "tellsStood", "(JII)J"⟩, 37) := ⟨⟨by decide +kernel, by decide +kernel⟩, List.mem_of_getElem? (i := 965) (by decide +kernel), List.mem_of_getElem? (i := 1448) (by decide +kernel), List.mem_of_getElem? (i := 1449) (by decide +kernel)⟩
theorem lw_p62 : lw_okq (⟨"SneezeGuardModel", "tellsPerson", "(JI)J"⟩, 37) := ⟨⟨by decide +kernel, by decide +kernel⟩, List.mem_of_getElem? (i := 965) (by decide +kernel), List.mem_of_getElem? (i := 1452) (by decide +kernel), List.mem_of_getElem? (i := 1453) (by decide +kernel)⟩
theorem lw_p63 : lw_okq (⟨"SneezeGuardModel", "tellsHour", "(JII)J"⟩, 37) := ⟨⟨by decide +kernel, by decide +kernel⟩, List.mem_of_getElem? (i := 965) (by decide +kernel), List.mem_of_getElem? (i := 1456) (by decide +kernel), List.mem_of_getElem? (i := 1457) (by decide +kernel)⟩
def lw_privs_4 : List (MethodName × Nat) := [(⟨"SneezeGuardModel", "spareBy", "(I)I"⟩, 37), (⟨"SneezeGuardModel", "isSpared", "(I)Z"⟩, 37), (⟨"SneezeGuardModel", "neverNow", "()I"⟩, 37), (⟨"SneezeGuardModel", "isSeen", "()Z"⟩, 37), (⟨"SneezeGuardModel", "wasOf", "(II)I"⟩, 37), (⟨"SneezeGuardModel", "sortOf", "(I)I"⟩, 37), (⟨"SneezeGuardModel", "coldsOf", "(I)I"⟩, 37), (⟨"SneezeGuardModel", "askOf", "(I)I"⟩, 37), (⟨"SneezeGuardModel", "alike", "(II)I"⟩, 37), (⟨"SneezeGuardModel", "chanceOf", "(III)J"⟩, 37), (⟨"SneezeGuardModel", "decadesOf", "(III)I"⟩, 37), (⟨"SneezeGuardModel", "lot", "(I)I"⟩, 37), (⟨"SneezeGuardModel", "tellsPost", "(JI)J"⟩, 37), (⟨"SneezeGuardModel", "tellsStood", "(JII)J"⟩, 37), (⟨"SneezeGuardModel", "tellsPerson", "(JI)J"⟩, 37), (⟨"SneezeGuardModel", "tellsHour", "(JII)J"⟩, 37)]
theorem lw_r4 : ∀ q ∈ lw_privs_4, lw_okq q := List.forall_mem_cons.mpr ⟨lw_p48, List.forall_mem_cons.mpr ⟨lw_p49, List.forall_mem_cons.mpr ⟨lw_p50, List.forall_mem_cons.mpr ⟨lw_p51, List.forall_mem_cons.mpr ⟨lw_p52, List.forall_mem_cons.mpr ⟨lw_p53, List.forall_mem_cons.mpr ⟨lw_p54, List.forall_mem_cons.mpr ⟨lw_p55, List.forall_mem_cons.mpr ⟨lw_p56, List.forall_mem_cons.mpr ⟨lw_p57, List.forall_mem_cons.mpr ⟨lw_p58, List.forall_mem_cons.mpr ⟨lw_p59, List.forall_mem_cons.mpr ⟨lw_p60, List.forall_mem_cons.mpr ⟨lw_p61, List.forall_mem_cons.mpr ⟨lw_p62, List.forall_mem_cons.mpr ⟨lw_p63, fun _ h => absurd h List.not_mem_nil⟩⟩⟩⟩⟩⟩⟩⟩⟩⟩⟩⟩⟩⟩⟩⟩
def lw_privs : List (MethodName × Nat) := lw_privs_1 ++ (lw_privs_2 ++ (lw_privs_3 ++ (lw_privs_4)))
def lw_tbl : List Cond := k2_sels lw_privs ++ tables_1
theorem lw_privs_ok : ∀ q ∈ lw_privs, lw_okq q := by
  show ∀ q ∈ lw_privs_1 ++ (lw_privs_2 ++ (lw_privs_3 ++ (lw_privs_4))), lw_okq q
  exact List.forall_mem_append.mpr ⟨lw_r1, List.forall_mem_append.mpr ⟨lw_r2, List.forall_mem_append.mpr ⟨lw_r3, lw_r4⟩⟩⟩

def RX0 : String := "SneezeGuard$Chances"
def TX0 : u_T := fun k => match k with
  | 0 => ("SneezeGuard$Chances", "kingdom", "LSneezeGuard$Kingdom;", true)
  | 1 => ("SneezeGuard$Chances", "drawn", "LSneezeGuard$Events;", true)
  | 2 => ("SneezeGuard$Chances", "weights", "[J", true)
  | _ => ("SneezeGuard$Chances", "seed", "I", false)
def tyX0 : Nat → FieldType := fun k => match k with
  | 0 => .object "SneezeGuard$Kingdom"
  | 1 => .object "SneezeGuard$Events"
  | 2 => .array .long
  | _ => .int
abbrev wsX00 : List Cond := u_ws RX0 TX0 4
theorem nmX0 : ∀ a, a < 4 → ∀ b, b < 4 → a ≠ b → (TX0 a).2.1 ≠ (TX0 b).2.1 := by decide +kernel
theorem tyX0_ok : ∀ k, k < 4 → parseFieldDescriptor (TX0 k).2.2.1 = some (tyX0 k) := by decide +kernel
abbrev cX0_init : ByteArray := prog_2_method_1_code
def yX0_init : MethodName := ⟨RX0, "<init>", "(LSneezeGuard$Kingdom;)V"⟩
abbrev cX0_fraction : ByteArray := prog_2_method_2_code
def yX0_fraction : MethodName := ⟨RX0, "fraction", "(III)J"⟩
abbrev cX0_weigh : ByteArray := prog_2_method_3_code
def yX0_weigh : MethodName := ⟨RX0, "weigh", "(II)V"⟩
abbrev cX0_dayByLots : ByteArray := prog_2_method_4_code
def yX0_dayByLots : MethodName := ⟨RX0, "dayByLots", "(II)LSneezeGuard$Day;"⟩
abbrev cX0_lotOf : ByteArray := prog_2_method_5_code
def yX0_lotOf : MethodName := ⟨RX0, "lotOf", "(I)I"⟩
def RX1 : String := "SneezeGuard$Day"
def TX1 : u_T := fun k => match k with
  | 0 => ("SneezeGuard$Day", "wall", "LSneezeGuard$Wall;", true)
  | 1 => ("SneezeGuard$Day", "weather", "LSneezeGuard$Weather;", true)
  | 2 => ("SneezeGuard$Day", "cellNow", "[I", true)
  | 3 => ("SneezeGuard$Day", "stepNow", "[I", true)
  | 4 => ("SneezeGuard$Day", "coldNow", "[I", true)
  | 5 => ("SneezeGuard$Day", "stoodNow", "[I", true)
  | 6 => ("SneezeGuard$Day", "cell", "[I", true)
  | 7 => ("SneezeGuard$Day", "cold", "[I", true)
  | 8 => ("SneezeGuard$Day", "changed", "[I", true)
  | 9 => ("SneezeGuard$Day", "stood", "[I", true)
  | 10 => ("SneezeGuard$Day", "sneezers", "[I", true)
  | 11 => ("SneezeGuard$Day", "changes", "[I", true)
  | 12 => ("SneezeGuard$Day", "total", "I", false)
  | 13 => ("SneezeGuard$Day", "forgotten", "I", false)
  | 14 => ("SneezeGuard$Day", "longest", "I", false)
  | 15 => ("SneezeGuard$Day", "longestHour", "I", false)
  | _ => ("SneezeGuard$Day", "longestPost", "I", false)
def tyX1 : Nat → FieldType := fun k => match k with
  | 0 => .object "SneezeGuard$Wall"
  | 1 => .object "SneezeGuard$Weather"
  | 2 => .array .int
  | 3 => .array .int
  | 4 => .array .int
  | 5 => .array .int
  | 6 => .array .int
  | 7 => .array .int
  | 8 => .array .int
  | 9 => .array .int
  | 10 => .array .int
  | 11 => .array .int
  | 12 => .int
  | 13 => .int
  | 14 => .int
  | 15 => .int
  | _ => .int
abbrev wsX10 : List Cond := u_ws RX1 TX1 17
theorem nmX1 : ∀ a, a < 17 → ∀ b, b < 17 → a ≠ b → (TX1 a).2.1 ≠ (TX1 b).2.1 := by decide +kernel
theorem tyX1_ok : ∀ k, k < 17 → parseFieldDescriptor (TX1 k).2.2.1 = some (tyX1 k) := by decide +kernel
abbrev cX1_init : ByteArray := prog_3_method_1_code
def yX1_init : MethodName := ⟨RX1, "<init>", "(LSneezeGuard$Wall;LSneezeGuard$Weather;)V"⟩
abbrev cX1_pass : ByteArray := prog_3_method_2_code
def yX1_pass : MethodName := ⟨RX1, "pass", "()V"⟩
abbrev cX1_begin : ByteArray := prog_3_method_3_code
def yX1_begin : MethodName := ⟨RX1, "begin", "()V"⟩
abbrev cX1_walk : ByteArray := prog_3_method_4_code
def yX1_walk : MethodName := ⟨RX1, "walk", "(I)V"⟩
abbrev cX1_sneeze : ByteArray := prog_3_method_5_code
def yX1_sneeze : MethodName := ⟨RX1, "sneeze", "(I)V"⟩
abbrev cX1_divides : ByteArray := prog_3_method_6_code
def yX1_divides : MethodName := ⟨RX1, "divides", "(II)Z"⟩
abbrev cX1_changeGuard : ByteArray := prog_3_method_7_code
def yX1_changeGuard : MethodName := ⟨RX1, "changeGuard", "(I)V"⟩
abbrev cX1_stand : ByteArray := prog_3_method_8_code
def yX1_stand : MethodName := ⟨RX1, "stand", "(I)V"⟩
abbrev cX1_spreadColds : ByteArray := prog_3_method_9_code
def yX1_spreadColds : MethodName := ⟨RX1, "spreadColds", "(I)V"⟩
abbrev cX1_othersInCellOf : ByteArray := prog_3_method_10_code
def yX1_othersInCellOf : MethodName := ⟨RX1, "othersInCellOf", "(I)I"⟩
abbrev cX1_changerOf : ByteArray := prog_3_method_11_code
def yX1_changerOf : MethodName := ⟨RX1, "changerOf", "(II)I"⟩
abbrev cX1_busiest : ByteArray := prog_3_method_12_code
def yX1_busiest : MethodName := ⟨RX1, "busiest", "()I"⟩
abbrev cX1_silent : ByteArray := prog_3_method_13_code
def yX1_silent : MethodName := ⟨RX1, "silent", "()I"⟩
def RX2 : String := "SneezeGuard$Events"
def TX2 : u_T := fun k => match k with
  | 0 => ("SneezeGuard$Events", "events", "I", false)
  | 1 => ("SneezeGuard$Events", "kind", "[I", true)
  | 2 => ("SneezeGuard$Events", "hour", "[I", true)
  | _ => ("SneezeGuard$Events", "number", "[I", true)
def tyX2 : Nat → FieldType := fun k => match k with
  | 0 => .int
  | 1 => .array .int
  | 2 => .array .int
  | _ => .array .int
abbrev wsX20 : List Cond := u_ws RX2 TX2 4
theorem nmX2 : ∀ a, a < 4 → ∀ b, b < 4 → a ≠ b → (TX2 a).2.1 ≠ (TX2 b).2.1 := by decide +kernel
theorem tyX2_ok : ∀ k, k < 4 → parseFieldDescriptor (TX2 k).2.2.1 = some (tyX2 k) := by decide +kernel
abbrev cX2_init : ByteArray := prog_4_method_1_code
def yX2_init : MethodName := ⟨RX2, "<init>", "()V"⟩
abbrev cX2_mayBe : ByteArray := prog_4_method_2_code
def yX2_mayBe : MethodName := ⟨RX2, "mayBe", "(III)Z"⟩
abbrev cX2_add : ByteArray := prog_4_method_3_code
def yX2_add : MethodName := ⟨RX2, "add", "(III)Z"⟩
abbrev cX2_everyBit : ByteArray := prog_4_method_4_code
def yX2_everyBit : MethodName := ⟨RX2, "everyBit", "()I"⟩
def RX3 : String := "SneezeGuard$Hindsight"
def TX3 : u_T := fun k => match k with
  | 0 => ("SneezeGuard$Hindsight", "kingdom", "LSneezeGuard$Kingdom;", true)
  | 1 => ("SneezeGuard$Hindsight", "seen", "I", false)
  | 2 => ("SneezeGuard$Hindsight", "hour", "[I", true)
  | 3 => ("SneezeGuard$Hindsight", "post", "[I", true)
  | 4 => ("SneezeGuard$Hindsight", "is", "[I", true)
  | _ => ("SneezeGuard$Hindsight", "changesByCold", "[[I", true)
def tyX3 : Nat → FieldType := fun k => match k with
  | 0 => .object "SneezeGuard$Kingdom"
  | 1 => .int
  | 2 => .array .int
  | 3 => .array .int
  | 4 => .array .int
  | _ => .array (.array .int)
abbrev wsX30 : List Cond := u_ws RX3 TX3 6
theorem nmX3 : ∀ a, a < 6 → ∀ b, b < 6 → a ≠ b → (TX3 a).2.1 ≠ (TX3 b).2.1 := by decide +kernel
theorem tyX3_ok : ∀ k, k < 6 → parseFieldDescriptor (TX3 k).2.2.1 = some (tyX3 k) := by decide +kernel
abbrev cX3_init : ByteArray := prog_5_method_1_code
def yX3_init : MethodName := ⟨RX3, "<init>", "(LSneezeGuard$Kingdom;)V"⟩
abbrev cX3_see : ByteArray := prog_5_method_2_code
def yX3_see : MethodName := ⟨RX3, "see", "(III)I"⟩
abbrev cX3_needless : ByteArray := prog_5_method_3_code
def yX3_needless : MethodName := ⟨RX3, "needless", "()I"⟩
abbrev cX3_sortsOf : ByteArray := prog_5_method_4_code
def yX3_sortsOf : MethodName := ⟨RX3, "sortsOf", "(I)I"⟩
abbrev cX3_coldsOf : ByteArray := prog_5_method_5_code
def yX3_coldsOf : MethodName := ⟨RX3, "coldsOf", "(I)I"⟩
abbrev cX3_hourToAsk : ByteArray := prog_5_method_6_code
def yX3_hourToAsk : MethodName := ⟨RX3, "hourToAsk", "(I)I"⟩
abbrev cX3_mostAlike : ByteArray := prog_5_method_7_code
def yX3_mostAlike : MethodName := ⟨RX3, "mostAlike", "(II)I"⟩
abbrev cX3_comesOutSo : ByteArray := prog_5_method_8_code
def yX3_comesOutSo : MethodName := ⟨RX3, "comesOutSo", "()Z"⟩
def RX4 : String := "SneezeGuard$Kingdom"
def TX4 : u_T := fun k => match k with
  | 0 => ("SneezeGuard$Kingdom", "postsText", "LSneezeGuard$Text;", true)
  | 1 => ("SneezeGuard$Kingdom", "peopleText", "LSneezeGuard$Text;", true)
  | 2 => ("SneezeGuard$Kingdom", "wall", "LSneezeGuard$Wall;", true)
  | 3 => ("SneezeGuard$Kingdom", "events", "LSneezeGuard$Events;", true)
  | 4 => ("SneezeGuard$Kingdom", "weather", "LSneezeGuard$Weather;", true)
  | 5 => ("SneezeGuard$Kingdom", "told", "LSneezeGuard$Day;", true)
  | 6 => ("SneezeGuard$Kingdom", "supposed", "LSneezeGuard$Day;", true)
  | _ => ("SneezeGuard$Kingdom", "forgottenBy", "[I", true)
def tyX4 : Nat → FieldType := fun k => match k with
  | 0 => .object "SneezeGuard$Text"
  | 1 => .object "SneezeGuard$Text"
  | 2 => .object "SneezeGuard$Wall"
  | 3 => .object "SneezeGuard$Events"
  | 4 => .object "SneezeGuard$Weather"
  | 5 => .object "SneezeGuard$Day"
  | 6 => .object "SneezeGuard$Day"
  | _ => .array .int
abbrev wsX40 : List Cond := u_ws RX4 TX4 8
theorem nmX4 : ∀ a, a < 8 → ∀ b, b < 8 → a ≠ b → (TX4 a).2.1 ≠ (TX4 b).2.1 := by decide +kernel
theorem tyX4_ok : ∀ k, k < 8 → parseFieldDescriptor (TX4 k).2.2.1 = some (tyX4 k) := by decide +kernel
abbrev cX4_init : ByteArray := prog_6_method_1_code
def yX4_init : MethodName := ⟨RX4, "<init>", "()V"⟩
abbrev cX4_textOf : ByteArray := prog_6_method_2_code
def yX4_textOf : MethodName := ⟨RX4, "textOf", "(I)LSneezeGuard$Text;"⟩
abbrev cX4_tellAnew : ByteArray := prog_6_method_3_code
def yX4_tellAnew : MethodName := ⟨RX4, "tellAnew", "()V"⟩
abbrev cX4_clearWeather : ByteArray := prog_6_method_4_code
def yX4_clearWeather : MethodName := ⟨RX4, "clearWeather", "()V"⟩
abbrev cX4_supposeEvents : ByteArray := prog_6_method_5_code
def yX4_supposeEvents : MethodName := ⟨RX4, "supposeEvents", "(LSneezeGuard$Events;I)V"⟩
abbrev cX4_forgottenWith : ByteArray := prog_6_method_6_code
def yX4_forgottenWith : MethodName := ⟨RX4, "forgottenWith", "(I)I"⟩
def RX5 : String := "SneezeGuard$Plans"
def TX5 : u_T := fun k => match k with
  | 0 => ("SneezeGuard$Plans", "kingdom", "LSneezeGuard$Kingdom;", true)
  | 1 => ("SneezeGuard$Plans", "which", "I", false)
  | 2 => ("SneezeGuard$Plans", "howMany", "I", false)
  | 3 => ("SneezeGuard$Plans", "first", "I", false)
  | _ => ("SneezeGuard$Plans", "second", "I", false)
def tyX5 : Nat → FieldType := fun k => match k with
  | 0 => .object "SneezeGuard$Kingdom"
  | 1 => .int
  | 2 => .int
  | 3 => .int
  | _ => .int
abbrev wsX50 : List Cond := u_ws RX5 TX5 5
theorem nmX5 : ∀ a, a < 5 → ∀ b, b < 5 → a ≠ b → (TX5 a).2.1 ≠ (TX5 b).2.1 := by decide +kernel
theorem tyX5_ok : ∀ k, k < 5 → parseFieldDescriptor (TX5 k).2.2.1 = some (tyX5 k) := by decide +kernel
abbrev cX5_init : ByteArray := prog_7_method_1_code
def yX5_init : MethodName := ⟨RX5, "<init>", "(LSneezeGuard$Kingdom;)V"⟩
abbrev cX5_planStroll : ByteArray := prog_7_method_2_code
def yX5_planStroll : MethodName := ⟨RX5, "planStroll", "(I)V"⟩
abbrev cX5_planDust : ByteArray := prog_7_method_3_code
def yX5_planDust : MethodName := ⟨RX5, "planDust", "(I)V"⟩
abbrev cX5_planHush : ByteArray := prog_7_method_4_code
def yX5_planHush : MethodName := ⟨RX5, "planHush", "(I)V"⟩
abbrev cX5_planSpare : ByteArray := prog_7_method_5_code
def yX5_planSpare : MethodName := ⟨RX5, "planSpare", "()V"⟩
abbrev cX5_setSpare : ByteArray := prog_7_method_6_code
def yX5_setSpare : MethodName := ⟨RX5, "setSpare", "(III)V"⟩
def RX6 : String := "SneezeGuard$Sheets"
def TX6 : u_T := fun k => match k with
  | 0 => ("SneezeGuard$Sheets", "formOf", "[I", true)
  | 1 => ("SneezeGuard$Sheets", "lengths", "[I", true)
  | 2 => ("SneezeGuard$Sheets", "items", "[[I", true)
  | _ => ("SneezeGuard$Sheets", "latestFinding", "I", false)
def tyX6 : Nat → FieldType := fun k => match k with
  | 0 => .array .int
  | 1 => .array .int
  | 2 => .array (.array .int)
  | _ => .int
abbrev wsX60 : List Cond := u_ws RX6 TX6 4
theorem nmX6 : ∀ a, a < 4 → ∀ b, b < 4 → a ≠ b → (TX6 a).2.1 ≠ (TX6 b).2.1 := by decide +kernel
theorem tyX6_ok : ∀ k, k < 4 → parseFieldDescriptor (TX6 k).2.2.1 = some (tyX6 k) := by decide +kernel
abbrev cX6_init : ByteArray := prog_8_method_1_code
def yX6_init : MethodName := ⟨RX6, "<init>", "()V"⟩
abbrev cX6_make : ByteArray := prog_8_method_2_code
def yX6_make : MethodName := ⟨RX6, "make", "(III)I"⟩
abbrev cX6_drop : ByteArray := prog_8_method_3_code
def yX6_drop : MethodName := ⟨RX6, "drop", "(I)I"⟩
abbrev cX6_move : ByteArray := prog_8_method_4_code
def yX6_move : MethodName := ⟨RX6, "move", "(IIIII)I"⟩
abbrev cX6_hasRoom : ByteArray := prog_8_method_5_code
def yX6_hasRoom : MethodName := ⟨RX6, "hasRoom", "(III)Z"⟩
abbrev cX6_refusalOf : ByteArray := prog_8_method_6_code
def yX6_refusalOf : MethodName := ⟨RX6, "refusalOf", "(I)I"⟩
abbrev cX6_refusalOfItem : ByteArray := prog_8_method_7_code
def yX6_refusalOfItem : MethodName := ⟨RX6, "refusalOfItem", "(III)I"⟩
abbrev cX6_lengthOf : ByteArray := prog_8_method_8_code
def yX6_lengthOf : MethodName := ⟨RX6, "lengthOf", "(I)I"⟩
abbrev cX6_item : ByteArray := prog_8_method_9_code
def yX6_item : MethodName := ⟨RX6, "item", "(II)I"⟩
abbrev cX6_put : ByteArray := prog_8_method_10_code
def yX6_put : MethodName := ⟨RX6, "put", "(III)V"⟩
abbrev cX6_found : ByteArray := prog_8_method_11_code
def yX6_found : MethodName := ⟨RX6, "found", "(I)I"⟩
def RX7 : String := "SneezeGuard$Text"
def TX7 : u_T := fun k => match k with
  | 0 => ("SneezeGuard$Text", "ofPosts", "Z", true)
  | 1 => ("SneezeGuard$Text", "period", "I", true)
  | 2 => ("SneezeGuard$Text", "bytes", "[I", true)
  | _ => ("SneezeGuard$Text", "length", "I", false)
def tyX7 : Nat → FieldType := fun k => match k with
  | 0 => .boolean
  | 1 => .int
  | 2 => .array .int
  | _ => .int
abbrev wsX70 : List Cond := u_ws RX7 TX7 4
theorem nmX7 : ∀ a, a < 4 → ∀ b, b < 4 → a ≠ b → (TX7 a).2.1 ≠ (TX7 b).2.1 := by decide +kernel
theorem tyX7_ok : ∀ k, k < 4 → parseFieldDescriptor (TX7 k).2.2.1 = some (tyX7 k) := by decide +kernel
abbrev cX7_init : ByteArray := prog_9_method_1_code
def yX7_init : MethodName := ⟨RX7, "<init>", "(Z)V"⟩
abbrev cX7_add : ByteArray := prog_9_method_2_code
def yX7_add : MethodName := ⟨RX7, "add", "(I)I"⟩
abbrev cX7_clear : ByteArray := prog_9_method_3_code
def yX7_clear : MethodName := ⟨RX7, "clear", "()I"⟩
abbrev cX7_dropLast : ByteArray := prog_9_method_4_code
def yX7_dropLast : MethodName := ⟨RX7, "dropLast", "()I"⟩
abbrev cX7_firstFault : ByteArray := prog_9_method_5_code
def yX7_firstFault : MethodName := ⟨RX7, "firstFault", "()I"⟩
abbrev cX7_things : ByteArray := prog_9_method_6_code
def yX7_things : MethodName := ⟨RX7, "things", "()I"⟩
abbrev cX7_number : ByteArray := prog_9_method_7_code
def yX7_number : MethodName := ⟨RX7, "number", "(II)I"⟩
abbrev cX7_signs : ByteArray := prog_9_method_8_code
def yX7_signs : MethodName := ⟨RX7, "signs", "(I)Ljava/lang/String;"⟩
abbrev cX7_signsOfPost : ByteArray := prog_9_method_9_code
def yX7_signsOfPost : MethodName := ⟨RX7, "signsOfPost", "(I)Ljava/lang/String;"⟩
abbrev cX7_signsOfPerson : ByteArray := prog_9_method_10_code
def yX7_signsOfPerson : MethodName := ⟨RX7, "signsOfPerson", "(I)Ljava/lang/String;"⟩
def RX8 : String := "SneezeGuard$Wall"
def TX8 : u_T := fun k => match k with
  | 0 => ("SneezeGuard$Wall", "posts", "I", false)
  | 1 => ("SneezeGuard$Wall", "postCell", "[I", true)
  | 2 => ("SneezeGuard$Wall", "hard", "[I", true)
  | 3 => ("SneezeGuard$Wall", "hearers", "[I", true)
  | 4 => ("SneezeGuard$Wall", "people", "I", false)
  | 5 => ("SneezeGuard$Wall", "sort", "[I", true)
  | 6 => ("SneezeGuard$Wall", "cell", "[I", true)
  | 7 => ("SneezeGuard$Wall", "way", "[I", true)
  | _ => ("SneezeGuard$Wall", "cold", "[I", true)
def tyX8 : Nat → FieldType := fun k => match k with
  | 0 => .int
  | 1 => .array .int
  | 2 => .array .int
  | 3 => .array .int
  | 4 => .int
  | 5 => .array .int
  | 6 => .array .int
  | 7 => .array .int
  | _ => .array .int
abbrev wsX80 : List Cond := u_ws RX8 TX8 9
theorem nmX8 : ∀ a, a < 9 → ∀ b, b < 9 → a ≠ b → (TX8 a).2.1 ≠ (TX8 b).2.1 := by decide +kernel
theorem tyX8_ok : ∀ k, k < 9 → parseFieldDescriptor (TX8 k).2.2.1 = some (tyX8 k) := by decide +kernel
abbrev cX8_init : ByteArray := prog_10_method_1_code
def yX8_init : MethodName := ⟨RX8, "<init>", "()V"⟩
abbrev cX8_loadPosts : ByteArray := prog_10_method_2_code
def yX8_loadPosts : MethodName := ⟨RX8, "loadPosts", "(LSneezeGuard$Text;)V"⟩
abbrev cX8_loadPeople : ByteArray := prog_10_method_3_code
def yX8_loadPeople : MethodName := ⟨RX8, "loadPeople", "(LSneezeGuard$Text;)V"⟩
abbrev cX8_hearersOf : ByteArray := prog_10_method_4_code
def yX8_hearersOf : MethodName := ⟨RX8, "hearersOf", "(II)I"⟩
abbrev cX8_hearersByDistance : ByteArray := prog_10_method_5_code
def yX8_hearersByDistance : MethodName := ⟨RX8, "hearersByDistance", "(II)I"⟩
def RX9 : String := "SneezeGuard$Weather"
def TX9 : u_T := fun k => match k with
  | 0 => ("SneezeGuard$Weather", "pepperedCells", "[I", true)
  | 1 => ("SneezeGuard$Weather", "heldPeople", "[I", true)
  | _ => ("SneezeGuard$Weather", "frost", "[Z", true)
def tyX9 : Nat → FieldType := fun k => match k with
  | 0 => .array .int
  | 1 => .array .int
  | _ => .array .boolean
abbrev wsX90 : List Cond := u_ws RX9 TX9 3
theorem nmX9 : ∀ a, a < 3 → ∀ b, b < 3 → a ≠ b → (TX9 a).2.1 ≠ (TX9 b).2.1 := by decide +kernel
theorem tyX9_ok : ∀ k, k < 3 → parseFieldDescriptor (TX9 k).2.2.1 = some (tyX9 k) := by decide +kernel
abbrev cX9_init : ByteArray := prog_11_method_1_code
def yX9_init : MethodName := ⟨RX9, "<init>", "()V"⟩
abbrev cX9_load : ByteArray := prog_11_method_2_code
def yX9_load : MethodName := ⟨RX9, "load", "(LSneezeGuard$Events;I)V"⟩
abbrev cX9_add : ByteArray := prog_11_method_3_code
def yX9_add : MethodName := ⟨RX9, "add", "(III)V"⟩
def RX10 : String := "SneezeGuard"
def TX10 : u_T := fun k => match k with
  | 0 => ("SneezeGuard", "kingdom", "LSneezeGuard$Kingdom;", true)
  | 1 => ("SneezeGuard", "plans", "LSneezeGuard$Plans;", true)
  | 2 => ("SneezeGuard", "hindsight", "LSneezeGuard$Hindsight;", true)
  | 3 => ("SneezeGuard", "chances", "LSneezeGuard$Chances;", true)
  | _ => ("SneezeGuard", "sheets", "LSneezeGuard$Sheets;", true)
def tyX10 : Nat → FieldType := fun k => match k with
  | 0 => .object "SneezeGuard$Kingdom"
  | 1 => .object "SneezeGuard$Plans"
  | 2 => .object "SneezeGuard$Hindsight"
  | 3 => .object "SneezeGuard$Chances"
  | _ => .object "SneezeGuard$Sheets"
abbrev wsX100 : List Cond := u_ws RX10 TX10 5
theorem nmX10 : ∀ a, a < 5 → ∀ b, b < 5 → a ≠ b → (TX10 a).2.1 ≠ (TX10 b).2.1 := by decide +kernel
theorem tyX10_ok : ∀ k, k < 5 → parseFieldDescriptor (TX10 k).2.2.1 = some (tyX10 k) := by decide +kernel
abbrev cX10_init : ByteArray := prog_1_method_1_code
def yX10_init : MethodName := ⟨RX10, "<init>", "()V"⟩
abbrev cX10_type : ByteArray := prog_1_method_2_code
def yX10_type : MethodName := ⟨RX10, "type", "(II)I"⟩
abbrev cX10_wipe : ByteArray := prog_1_method_3_code
def yX10_wipe : MethodName := ⟨RX10, "wipe", "(I)I"⟩
abbrev cX10_undo : ByteArray := prog_1_method_4_code
def yX10_undo : MethodName := ⟨RX10, "undo", "(I)I"⟩
abbrev cX10_fault : ByteArray := prog_1_method_5_code
def yX10_fault : MethodName := ⟨RX10, "fault", "(I)I"⟩
abbrev cX10_post : ByteArray := prog_1_method_6_code
def yX10_post : MethodName := ⟨RX10, "post", "(II)I"⟩
abbrev cX10_person : ByteArray := prog_1_method_7_code
def yX10_person : MethodName := ⟨RX10, "person", "(II)I"⟩
abbrev cX10_event : ByteArray := prog_1_method_8_code
def yX10_event : MethodName := ⟨RX10, "event", "(III)I"⟩
abbrev cX10_back : ByteArray := prog_1_method_9_code
def yX10_back : MethodName := ⟨RX10, "back", "()I"⟩
abbrev cX10_read : ByteArray := prog_1_method_10_code
def yX10_read : MethodName := ⟨RX10, "read", "(I)I"⟩
abbrev cX10_at : ByteArray := prog_1_method_11_code
def yX10_at : MethodName := ⟨RX10, "at", "(III)I"⟩
abbrev cX10_stood : ByteArray := prog_1_method_12_code
def yX10_stood : MethodName := ⟨RX10, "stood", "(III)I"⟩
abbrev cX10_changes : ByteArray := prog_1_method_13_code
def yX10_changes : MethodName := ⟨RX10, "changes", "(I)I"⟩
abbrev cX10_forgotten : ByteArray := prog_1_method_14_code
def yX10_forgotten : MethodName := ⟨RX10, "forgotten", "()I"⟩
abbrev cX10_longest : ByteArray := prog_1_method_15_code
def yX10_longest : MethodName := ⟨RX10, "longest", "(I)I"⟩
abbrev cX10_all : ByteArray := prog_1_method_16_code
def yX10_all : MethodName := ⟨RX10, "all", "()I"⟩
abbrev cX10_busy : ByteArray := prog_1_method_17_code
def yX10_busy : MethodName := ⟨RX10, "busy", "()I"⟩
abbrev cX10_quiet : ByteArray := prog_1_method_18_code
def yX10_quiet : MethodName := ⟨RX10, "quiet", "()I"⟩
abbrev cX10_stroll : ByteArray := prog_1_method_19_code
def yX10_stroll : MethodName := ⟨RX10, "stroll", "(II)I"⟩
abbrev cX10_dust : ByteArray := prog_1_method_20_code
def yX10_dust : MethodName := ⟨RX10, "dust", "(II)I"⟩
abbrev cX10_hush : ByteArray := prog_1_method_21_code
def yX10_hush : MethodName := ⟨RX10, "hush", "(II)I"⟩
abbrev cX10_spare : ByteArray := prog_1_method_22_code
def yX10_spare : MethodName := ⟨RX10, "spare", "(I)I"⟩
abbrev cX10_seen : ByteArray := prog_1_method_23_code
def yX10_seen : MethodName := ⟨RX10, "seen", "(III)I"⟩
abbrev cX10_forget : ByteArray := prog_1_method_24_code
def yX10_forget : MethodName := ⟨RX10, "forget", "()I"⟩
abbrev cX10_never : ByteArray := prog_1_method_25_code
def yX10_never : MethodName := ⟨RX10, "never", "()I"⟩
abbrev cX10_was : ByteArray := prog_1_method_26_code
def yX10_was : MethodName := ⟨RX10, "was", "(II)I"⟩
abbrev cX10_ask : ByteArray := prog_1_method_27_code
def yX10_ask : MethodName := ⟨RX10, "ask", "(I)I"⟩
abbrev cX10_chance : ByteArray := prog_1_method_28_code
def yX10_chance : MethodName := ⟨RX10, "chance", "(III)J"⟩
abbrev cX10_decades : ByteArray := prog_1_method_29_code
def yX10_decades : MethodName := ⟨RX10, "decades", "(III)I"⟩
abbrev cX10_sheet : ByteArray := prog_1_method_30_code
def yX10_sheet : MethodName := ⟨RX10, "sheet", "(III)I"⟩
abbrev cX10_lose : ByteArray := prog_1_method_31_code
def yX10_lose : MethodName := ⟨RX10, "lose", "(I)I"⟩
abbrev cX10_lay : ByteArray := prog_1_method_32_code
def yX10_lay : MethodName := ⟨RX10, "lay", "(IIII)I"⟩
abbrev cX10_get : ByteArray := prog_1_method_33_code
def yX10_get : MethodName := ⟨RX10, "get", "(III)I"⟩
abbrev cX10_copy : ByteArray := prog_1_method_34_code
def yX10_copy : MethodName := ⟨RX10, "copy", "(IIIII)I"⟩
abbrev cX10_write : ByteArray := prog_1_method_35_code
def yX10_write : MethodName := ⟨RX10, "write", "(II)I"⟩
abbrev cX10_count : ByteArray := prog_1_method_36_code
def yX10_count : MethodName := ⟨RX10, "count", "(I)I"⟩
abbrev cX10_digest : ByteArray := prog_1_method_37_code
def yX10_digest : MethodName := ⟨RX10, "digest", "()J"⟩
abbrev cX10_digestPost : ByteArray := prog_1_method_38_code
def yX10_digestPost : MethodName := ⟨RX10, "digestPost", "(JI)J"⟩
abbrev cX10_digestPerson : ByteArray := prog_1_method_39_code
def yX10_digestPerson : MethodName := ⟨RX10, "digestPerson", "(JI)J"⟩
abbrev cX10_digestRest : ByteArray := prog_1_method_40_code
def yX10_digestRest : MethodName := ⟨RX10, "digestRest", "(J)J"⟩
abbrev cX10_digestHour : ByteArray := prog_1_method_41_code
def yX10_digestHour : MethodName := ⟨RX10, "digestHour", "(I)I"⟩
abbrev cX10_isPost : ByteArray := prog_1_method_42_code
def yX10_isPost : MethodName := ⟨RX10, "isPost", "(I)Z"⟩
abbrev cX10_isPerson : ByteArray := prog_1_method_43_code
def yX10_isPerson : MethodName := ⟨RX10, "isPerson", "(I)Z"⟩
abbrev cX10_isBelow : ByteArray := prog_1_method_44_code
def yX10_isBelow : MethodName := ⟨RX10, "isBelow", "(II)Z"⟩
abbrev cX10_hasBit : ByteArray := prog_1_method_45_code
def yX10_hasBit : MethodName := ⟨RX10, "hasBit", "(II)Z"⟩
abbrev cX10_timesOfBit : ByteArray := prog_1_method_46_code
def yX10_timesOfBit : MethodName := ⟨RX10, "timesOfBit", "([III)I"⟩
def RX11 : String := "SneezeGuardModel"
def TX11 : u_T := fun k => match k with
  | 0 => ("SneezeGuardModel", "forms", "[I", true)
  | 1 => ("SneezeGuardModel", "sizes", "[I", true)
  | 2 => ("SneezeGuardModel", "items", "[I", true)
  | 3 => ("SneezeGuardModel", "moved", "[I", true)
  | 4 => ("SneezeGuardModel", "latest", "I", false)
  | 5 => ("SneezeGuardModel", "bytes", "[I", true)
  | 6 => ("SneezeGuardModel", "typed", "[I", true)
  | 7 => ("SneezeGuardModel", "posts", "I", false)
  | 8 => ("SneezeGuardModel", "post", "[I", true)
  | 9 => ("SneezeGuardModel", "people", "I", false)
  | 10 => ("SneezeGuardModel", "person", "[I", true)
  | 11 => ("SneezeGuardModel", "events", "I", false)
  | 12 => ("SneezeGuardModel", "event", "[I", true)
  | 13 => ("SneezeGuardModel", "gone", "I", false)
  | 14 => ("SneezeGuardModel", "oddHour", "I", false)
  | 15 => ("SneezeGuardModel", "oddKind", "I", false)
  | 16 => ("SneezeGuardModel", "oddNumber", "I", false)
  | 17 => ("SneezeGuardModel", "cell", "[I", true)
  | 18 => ("SneezeGuardModel", "way", "[I", true)
  | 19 => ("SneezeGuardModel", "cold", "[I", true)
  | 20 => ("SneezeGuardModel", "sneezes", "[Z", true)
  | 21 => ("SneezeGuardModel", "often", "[I", true)
  | 22 => ("SneezeGuardModel", "busy", "[I", true)
  | 23 => ("SneezeGuardModel", "stood", "[I", true)
  | 24 => ("SneezeGuardModel", "changed", "[I", true)
  | 25 => ("SneezeGuardModel", "cellBy", "[I", true)
  | 26 => ("SneezeGuardModel", "sneezesBy", "[I", true)
  | 27 => ("SneezeGuardModel", "oftenBy", "[I", true)
  | 28 => ("SneezeGuardModel", "coldBy", "[I", true)
  | 29 => ("SneezeGuardModel", "stoodBy", "[I", true)
  | 30 => ("SneezeGuardModel", "changedBy", "[I", true)
  | 31 => ("SneezeGuardModel", "whoBy", "[I", true)
  | 32 => ("SneezeGuardModel", "sights", "I", false)
  | 33 => ("SneezeGuardModel", "sight", "[I", true)
  | 34 => ("SneezeGuardModel", "ways", "[I", true)
  | 35 => ("SneezeGuardModel", "drawn", "I", false)
  | _ => ("SneezeGuardModel", "told", "[I", true)
def tyX11 : Nat → FieldType := fun k => match k with
  | 0 => .array .int
  | 1 => .array .int
  | 2 => .array .int
  | 3 => .array .int
  | 4 => .int
  | 5 => .array .int
  | 6 => .array .int
  | 7 => .int
  | 8 => .array .int
  | 9 => .int
  | 10 => .array .int
  | 11 => .int
  | 12 => .array .int
  | 13 => .int
  | 14 => .int
  | 15 => .int
  | 16 => .int
  | 17 => .array .int
  | 18 => .array .int
  | 19 => .array .int
  | 20 => .array .boolean
  | 21 => .array .int
  | 22 => .array .int
  | 23 => .array .int
  | 24 => .array .int
  | 25 => .array .int
  | 26 => .array .int
  | 27 => .array .int
  | 28 => .array .int
  | 29 => .array .int
  | 30 => .array .int
  | 31 => .array .int
  | 32 => .int
  | 33 => .array .int
  | 34 => .array .int
  | 35 => .int
  | _ => .array .int
abbrev wsX110 : List Cond := u_ws RX11 TX11 37
theorem nmX11 : ∀ a, a < 37 → ∀ b, b < 37 → a ≠ b → (TX11 a).2.1 ≠ (TX11 b).2.1 := by decide +kernel
theorem tyX11_ok : ∀ k, k < 37 → parseFieldDescriptor (TX11 k).2.2.1 = some (tyX11 k) := by decide +kernel
abbrev cX11_init : ByteArray := prog_13_method_1_code
def yX11_init : MethodName := ⟨RX11, "<init>", "()V"⟩
abbrev cX11_in : ByteArray := prog_13_method_3_code
def yX11_in : MethodName := ⟨RX11, "in", "(JJJ)Z"⟩
abbrev cX11_no : ByteArray := prog_13_method_4_code
def yX11_no : MethodName := ⟨RX11, "no", "(I)J"⟩
abbrev cX11_isTwo : ByteArray := prog_13_method_5_code
def yX11_isTwo : MethodName := ⟨RX11, "isTwo", "(I)Z"⟩
abbrev cX11_isIn : ByteArray := prog_13_method_6_code
def yX11_isIn : MethodName := ⟨RX11, "isIn", "(II)Z"⟩
abbrev cX11_ones : ByteArray := prog_13_method_7_code
def yX11_ones : MethodName := ⟨RX11, "ones", "(I)I"⟩
abbrev cX11_lesser : ByteArray := prog_13_method_8_code
def yX11_lesser : MethodName := ⟨RX11, "lesser", "(II)I"⟩
abbrev cX11_greater : ByteArray := prog_13_method_9_code
def yX11_greater : MethodName := ⟨RX11, "greater", "(II)I"⟩
abbrev cX11_apart : ByteArray := prog_13_method_10_code
def yX11_apart : MethodName := ⟨RX11, "apart", "(II)I"⟩
abbrev cX11_part : ByteArray := prog_13_method_11_code
def yX11_part : MethodName := ⟨RX11, "part", "(JJI)J"⟩
abbrev cX11_finds : ByteArray := prog_13_method_12_code
def yX11_finds : MethodName := ⟨RX11, "finds", "(I)I"⟩
abbrev cX11_isSheet : ByteArray := prog_13_method_13_code
def yX11_isSheet : MethodName := ⟨RX11, "isSheet", "(I)Z"⟩
abbrev cX11_sheet : ByteArray := prog_13_method_14_code
def yX11_sheet : MethodName := ⟨RX11, "sheet", "(III)I"⟩
abbrev cX11_lose : ByteArray := prog_13_method_15_code
def yX11_lose : MethodName := ⟨RX11, "lose", "(I)I"⟩
abbrev cX11_lacks : ByteArray := prog_13_method_16_code
def yX11_lacks : MethodName := ⟨RX11, "lacks", "(III)I"⟩
abbrev cX11_cut : ByteArray := prog_13_method_17_code
def yX11_cut : MethodName := ⟨RX11, "cut", "(II)I"⟩
abbrev cX11_lay : ByteArray := prog_13_method_18_code
def yX11_lay : MethodName := ⟨RX11, "lay", "(IIII)I"⟩
abbrev cX11_get : ByteArray := prog_13_method_19_code
def yX11_get : MethodName := ⟨RX11, "get", "(III)I"⟩
abbrev cX11_copy : ByteArray := prog_13_method_20_code
def yX11_copy : MethodName := ⟨RX11, "copy", "(IIIII)I"⟩
abbrev cX11_type : ByteArray := prog_13_method_21_code
def yX11_type : MethodName := ⟨RX11, "type", "(II)I"⟩
abbrev cX11_wipe : ByteArray := prog_13_method_22_code
def yX11_wipe : MethodName := ⟨RX11, "wipe", "(I)I"⟩
abbrev cX11_undo : ByteArray := prog_13_method_23_code
def yX11_undo : MethodName := ⟨RX11, "undo", "(I)I"⟩
abbrev cX11_figureOf : ByteArray := prog_13_method_24_code
def yX11_figureOf : MethodName := ⟨RX11, "figureOf", "(III)I"⟩
abbrev cX11_postOf : ByteArray := prog_13_method_25_code
def yX11_postOf : MethodName := ⟨RX11, "postOf", "(II)I"⟩
abbrev cX11_readsPosts : ByteArray := prog_13_method_26_code
def yX11_readsPosts : MethodName := ⟨RX11, "readsPosts", "()I"⟩
abbrev cX11_personOf : ByteArray := prog_13_method_27_code
def yX11_personOf : MethodName := ⟨RX11, "personOf", "(II)I"⟩
abbrev cX11_readsPeople : ByteArray := prog_13_method_28_code
def yX11_readsPeople : MethodName := ⟨RX11, "readsPeople", "()I"⟩
abbrev cX11_readsText : ByteArray := prog_13_method_29_code
def yX11_readsText : MethodName := ⟨RX11, "readsText", "(I)I"⟩
abbrev cX11_fault : ByteArray := prog_13_method_30_code
def yX11_fault : MethodName := ⟨RX11, "fault", "(I)I"⟩
abbrev cX11_isPost : ByteArray := prog_13_method_31_code
def yX11_isPost : MethodName := ⟨RX11, "isPost", "(I)Z"⟩
abbrev cX11_isPerson : ByteArray := prog_13_method_32_code
def yX11_isPerson : MethodName := ⟨RX11, "isPerson", "(I)Z"⟩
abbrev cX11_isHour : ByteArray := prog_13_method_33_code
def yX11_isHour : MethodName := ⟨RX11, "isHour", "(I)Z"⟩
abbrev cX11_post : ByteArray := prog_13_method_34_code
def yX11_post : MethodName := ⟨RX11, "post", "(II)I"⟩
abbrev cX11_person : ByteArray := prog_13_method_35_code
def yX11_person : MethodName := ⟨RX11, "person", "(II)I"⟩
abbrev cX11_keeps : ByteArray := prog_13_method_36_code
def yX11_keeps : MethodName := ⟨RX11, "keeps", "(III)V"⟩
abbrev cX11_event : ByteArray := prog_13_method_37_code
def yX11_event : MethodName := ⟨RX11, "event", "(III)I"⟩
abbrev cX11_back : ByteArray := prog_13_method_38_code
def yX11_back : MethodName := ⟨RX11, "back", "()I"⟩
abbrev cX11_read : ByteArray := prog_13_method_39_code
def yX11_read : MethodName := ⟨RX11, "read", "(I)I"⟩
abbrev cX11_isTold : ByteArray := prog_13_method_40_code
def yX11_isTold : MethodName := ⟨RX11, "isTold", "(III)Z"⟩
abbrev cX11_goes : ByteArray := prog_13_method_41_code
def yX11_goes : MethodName := ⟨RX11, "goes", "(I)V"⟩
abbrev cX11_isSneezing : ByteArray := prog_13_method_42_code
def yX11_isSneezing : MethodName := ⟨RX11, "isSneezing", "(II)Z"⟩
abbrev cX11_heardBy : ByteArray := prog_13_method_43_code
def yX11_heardBy : MethodName := ⟨RX11, "heardBy", "(I)I"⟩
abbrev cX11_isCaught : ByteArray := prog_13_method_44_code
def yX11_isCaught : MethodName := ⟨RX11, "isCaught", "(I)Z"⟩
abbrev cX11_passes : ByteArray := prog_13_method_45_code
def yX11_passes : MethodName := ⟨RX11, "passes", "(I)V"⟩
abbrev cX11_lives : ByteArray := prog_13_method_46_code
def yX11_lives : MethodName := ⟨RX11, "lives", "()V"⟩
abbrev cX11_find : ByteArray := prog_13_method_47_code
def yX11_find : MethodName := ⟨RX11, "find", "()V"⟩
abbrev cX11_atBy : ByteArray := prog_13_method_48_code
def yX11_atBy : MethodName := ⟨RX11, "atBy", "(III)I"⟩
abbrev cX11_at : ByteArray := prog_13_method_49_code
def yX11_at : MethodName := ⟨RX11, "at", "(III)I"⟩
abbrev cX11_stoodOf : ByteArray := prog_13_method_50_code
def yX11_stoodOf : MethodName := ⟨RX11, "stoodOf", "(III)I"⟩
abbrev cX11_stood : ByteArray := prog_13_method_51_code
def yX11_stood : MethodName := ⟨RX11, "stood", "(III)I"⟩
abbrev cX11_changesIn : ByteArray := prog_13_method_52_code
def yX11_changesIn : MethodName := ⟨RX11, "changesIn", "(I)I"⟩
abbrev cX11_changes : ByteArray := prog_13_method_53_code
def yX11_changes : MethodName := ⟨RX11, "changes", "(I)I"⟩
abbrev cX11_forgottenNow : ByteArray := prog_13_method_54_code
def yX11_forgottenNow : MethodName := ⟨RX11, "forgottenNow", "()I"⟩
abbrev cX11_forgotten : ByteArray := prog_13_method_55_code
def yX11_forgotten : MethodName := ⟨RX11, "forgotten", "()I"⟩
abbrev cX11_longestBy : ByteArray := prog_13_method_56_code
def yX11_longestBy : MethodName := ⟨RX11, "longestBy", "(I)I"⟩
abbrev cX11_longest : ByteArray := prog_13_method_57_code
def yX11_longest : MethodName := ⟨RX11, "longest", "(I)I"⟩
abbrev cX11_allNow : ByteArray := prog_13_method_58_code
def yX11_allNow : MethodName := ⟨RX11, "allNow", "()I"⟩
abbrev cX11_all : ByteArray := prog_13_method_59_code
def yX11_all : MethodName := ⟨RX11, "all", "()I"⟩
abbrev cX11_busyNow : ByteArray := prog_13_method_60_code
def yX11_busyNow : MethodName := ⟨RX11, "busyNow", "()I"⟩
abbrev cX11_busy : ByteArray := prog_13_method_61_code
def yX11_busy : MethodName := ⟨RX11, "busy", "()I"⟩
abbrev cX11_quietNow : ByteArray := prog_13_method_62_code
def yX11_quietNow : MethodName := ⟨RX11, "quietNow", "()I"⟩
abbrev cX11_quiet : ByteArray := prog_13_method_63_code
def yX11_quiet : MethodName := ⟨RX11, "quiet", "()I"⟩
abbrev cX11_strollOf : ByteArray := prog_13_method_64_code
def yX11_strollOf : MethodName := ⟨RX11, "strollOf", "(II)I"⟩
abbrev cX11_stroll : ByteArray := prog_13_method_65_code
def yX11_stroll : MethodName := ⟨RX11, "stroll", "(II)I"⟩
abbrev cX11_dustOf : ByteArray := prog_13_method_66_code
def yX11_dustOf : MethodName := ⟨RX11, "dustOf", "(II)I"⟩
abbrev cX11_dust : ByteArray := prog_13_method_67_code
def yX11_dust : MethodName := ⟨RX11, "dust", "(II)I"⟩
abbrev cX11_hushOf : ByteArray := prog_13_method_68_code
def yX11_hushOf : MethodName := ⟨RX11, "hushOf", "(II)I"⟩
abbrev cX11_hush : ByteArray := prog_13_method_69_code
def yX11_hush : MethodName := ⟨RX11, "hush", "(II)I"⟩
abbrev cX11_isSpared : ByteArray := prog_13_method_70_code
def yX11_isSpared : MethodName := ⟨RX11, "isSpared", "(I)Z"⟩
abbrev cX11_spareBy : ByteArray := prog_13_method_71_code
def yX11_spareBy : MethodName := ⟨RX11, "spareBy", "(I)I"⟩
abbrev cX11_spare : ByteArray := prog_13_method_72_code
def yX11_spare : MethodName := ⟨RX11, "spare", "(I)I"⟩
abbrev cX11_seen : ByteArray := prog_13_method_73_code
def yX11_seen : MethodName := ⟨RX11, "seen", "(III)I"⟩
abbrev cX11_forget : ByteArray := prog_13_method_74_code
def yX11_forget : MethodName := ⟨RX11, "forget", "()I"⟩
abbrev cX11_isSeen : ByteArray := prog_13_method_75_code
def yX11_isSeen : MethodName := ⟨RX11, "isSeen", "()Z"⟩
abbrev cX11_neverNow : ByteArray := prog_13_method_76_code
def yX11_neverNow : MethodName := ⟨RX11, "neverNow", "()I"⟩
abbrev cX11_never : ByteArray := prog_13_method_77_code
def yX11_never : MethodName := ⟨RX11, "never", "()I"⟩
abbrev cX11_sortOf : ByteArray := prog_13_method_78_code
def yX11_sortOf : MethodName := ⟨RX11, "sortOf", "(I)I"⟩
abbrev cX11_coldsOf : ByteArray := prog_13_method_79_code
def yX11_coldsOf : MethodName := ⟨RX11, "coldsOf", "(I)I"⟩
abbrev cX11_wasOf : ByteArray := prog_13_method_80_code
def yX11_wasOf : MethodName := ⟨RX11, "wasOf", "(II)I"⟩
abbrev cX11_was : ByteArray := prog_13_method_81_code
def yX11_was : MethodName := ⟨RX11, "was", "(II)I"⟩
abbrev cX11_alike : ByteArray := prog_13_method_82_code
def yX11_alike : MethodName := ⟨RX11, "alike", "(II)I"⟩
abbrev cX11_askOf : ByteArray := prog_13_method_83_code
def yX11_askOf : MethodName := ⟨RX11, "askOf", "(I)I"⟩
abbrev cX11_ask : ByteArray := prog_13_method_84_code
def yX11_ask : MethodName := ⟨RX11, "ask", "(I)I"⟩
abbrev cX11_chanceOf : ByteArray := prog_13_method_85_code
def yX11_chanceOf : MethodName := ⟨RX11, "chanceOf", "(III)J"⟩
abbrev cX11_chance : ByteArray := prog_13_method_86_code
def yX11_chance : MethodName := ⟨RX11, "chance", "(III)J"⟩
abbrev cX11_lot : ByteArray := prog_13_method_87_code
def yX11_lot : MethodName := ⟨RX11, "lot", "(I)I"⟩
abbrev cX11_decadesOf : ByteArray := prog_13_method_88_code
def yX11_decadesOf : MethodName := ⟨RX11, "decadesOf", "(III)I"⟩
abbrev cX11_decades : ByteArray := prog_13_method_89_code
def yX11_decades : MethodName := ⟨RX11, "decades", "(III)I"⟩
abbrev cX11_write : ByteArray := prog_13_method_90_code
def yX11_write : MethodName := ⟨RX11, "write", "(II)I"⟩
abbrev cX11_count : ByteArray := prog_13_method_91_code
def yX11_count : MethodName := ⟨RX11, "count", "(I)I"⟩
abbrev cX11_tellsStood : ByteArray := prog_13_method_92_code
def yX11_tellsStood : MethodName := ⟨RX11, "tellsStood", "(JII)J"⟩
abbrev cX11_tellsPost : ByteArray := prog_13_method_93_code
def yX11_tellsPost : MethodName := ⟨RX11, "tellsPost", "(JI)J"⟩
abbrev cX11_tellsHour : ByteArray := prog_13_method_94_code
def yX11_tellsHour : MethodName := ⟨RX11, "tellsHour", "(JII)J"⟩
abbrev cX11_tellsPerson : ByteArray := prog_13_method_95_code
def yX11_tellsPerson : MethodName := ⟨RX11, "tellsPerson", "(JI)J"⟩
abbrev cX11_digest : ByteArray := prog_13_method_96_code
def yX11_digest : MethodName := ⟨RX11, "digest", "()J"⟩
def RJ11 : String := "java/lang/Character"
abbrev cJ11_isValidCodePoint_9a6ad : ByteArray := prog_14_method_11_code
def yJ11_isValidCodePoint_9a6ad : MethodName := ⟨RJ11, "isValidCodePoint", "(I)Z"⟩
abbrev cJ11_highSurrogate_5068e : ByteArray := prog_14_method_28_code
def yJ11_highSurrogate_5068e : MethodName := ⟨RJ11, "highSurrogate", "(I)C"⟩
abbrev cJ11_lowSurrogate_5068e : ByteArray := prog_14_method_29_code
def yJ11_lowSurrogate_5068e : MethodName := ⟨RJ11, "lowSurrogate", "(I)C"⟩
def RJ6 : String := "java/lang/Integer"
abbrev cJ6_bitCount_0f7a4 : ByteArray := prog_15_method_49_code
def yJ6_bitCount_0f7a4 : MethodName := ⟨RJ6, "bitCount", "(I)I"⟩
def RJ9 : String := "java/lang/Math"
abbrev cJ9_abs_0f7a4 : ByteArray := prog_16_method_59_code
def yJ9_abs_0f7a4 : MethodName := ⟨RJ9, "abs", "(I)I"⟩
abbrev cJ9_max_7cf53 : ByteArray := prog_16_method_65_code
def yJ9_max_7cf53 : MethodName := ⟨RJ9, "max", "(II)I"⟩
abbrev cJ9_min_7cf53 : ByteArray := prog_16_method_69_code
def yJ9_min_7cf53 : MethodName := ⟨RJ9, "min", "(II)I"⟩
def RJ0 : String := "java/lang/String"
abbrev cJ0_length_8abf5 : ByteArray := prog_17_method_54_code
def yJ0_length_8abf5 : MethodName := ⟨RJ0, "length", "()I"⟩
abbrev cJ0_indexOf_0f7a4 : ByteArray := prog_17_method_79_code
def yJ0_indexOf_0f7a4 : MethodName := ⟨RJ0, "indexOf", "(I)I"⟩
abbrev cJ0_indexOf_7cf53 : ByteArray := prog_17_method_80_code
def yJ0_indexOf_7cf53 : MethodName := ⟨RJ0, "indexOf", "(II)I"⟩
abbrev cJ0_coder_7d493 : ByteArray := prog_17_method_152_code
def yJ0_coder_7d493 : MethodName := ⟨RJ0, "coder", "()B"⟩
abbrev cJ0_isLatin1_aae02 : ByteArray := prog_17_method_154_code
def yJ0_isLatin1_aae02 : MethodName := ⟨RJ0, "isLatin1", "()Z"⟩
abbrev cJ0_checkBoundsBeginEnd_23922 : ByteArray := prog_17_method_158_code
def yJ0_checkBoundsBeginEnd_23922 : MethodName := ⟨RJ0, "checkBoundsBeginEnd", "(III)V"⟩
def RJ1 : String := "java/lang/StringLatin1"
abbrev cJ1_canEncode_9a6ad : ByteArray := prog_18_method_4_code
def yJ1_canEncode_9a6ad : MethodName := ⟨RJ1, "canEncode", "(I)Z"⟩
abbrev cJ1_indexOf_4cfef : ByteArray := prog_18_method_22_code
def yJ1_indexOf_4cfef : MethodName := ⟨RJ1, "indexOf", "([BIII)I"⟩
abbrev cJ1_indexOfChar_4cfef : ByteArray := prog_18_method_23_code
def yJ1_indexOfChar_4cfef : MethodName := ⟨RJ1, "indexOfChar", "([BIII)I"⟩
def RJ2 : String := "java/lang/StringUTF16"
abbrev cJ2_getChar_3b067 : ByteArray := prog_19_method_5_code
def yJ2_getChar_3b067 : MethodName := ⟨RJ2, "getChar", "([BI)C"⟩
abbrev cJ2_length_9d52b : ByteArray := prog_19_method_6_code
def yJ2_length_9d52b : MethodName := ⟨RJ2, "length", "([B)I"⟩
abbrev cJ2_indexOf_4cfef : ByteArray := prog_19_method_40_code
def yJ2_indexOf_4cfef : MethodName := ⟨RJ2, "indexOf", "([BIII)I"⟩
abbrev cJ2_indexOfChar_4cfef : ByteArray := prog_19_method_47_code
def yJ2_indexOfChar_4cfef : MethodName := ⟨RJ2, "indexOfChar", "([BIII)I"⟩
abbrev cJ2_indexOfCharUnsafe_4cfef : ByteArray := prog_19_method_48_code
def yJ2_indexOfCharUnsafe_4cfef : MethodName := ⟨RJ2, "indexOfCharUnsafe", "([BIII)I"⟩
abbrev cJ2_indexOfSupplementary_4cfef : ByteArray := prog_19_method_49_code
def yJ2_indexOfSupplementary_4cfef : MethodName := ⟨RJ2, "indexOfSupplementary", "([BIII)I"⟩
abbrev cJ2_checkBoundsBeginEnd_d044e : ByteArray := prog_19_method_93_code
def yJ2_checkBoundsBeginEnd_d044e : MethodName := ⟨RJ2, "checkBoundsBeginEnd", "(II[B)V"⟩
def RJ10 : String := "java/lang/System"
def RJ7 : String := "java/util/Arrays"
abbrev cJ7_fill_53178 : ByteArray := prog_21_method_103_code
def yJ7_fill_53178 : MethodName := ⟨RJ7, "fill", "([II)V"⟩
def RJ3 : String := "jdk/internal/util/Preconditions"
abbrev cJ3_checkFromToIndex_8c36e : ByteArray := prog_22_method_12_code
def yJ3_checkFromToIndex_8c36e : MethodName := ⟨RJ3, "checkFromToIndex", "(IIILjava/util/function/BiFunction;)I"⟩
def RL : String := "SneezeGuardLaw"
abbrev cL_law : ByteArray := code
def yL_law : MethodName := ⟨RL, "law", "([I)Z"⟩
abbrev vwCl : List vw_C := [(RX0, TX0, 4), (RX1, TX1, 17), (RX2, TX2, 4), (RX3, TX3, 6), (RX4, TX4, 8), (RX5, TX5, 5), (RX6, TX6, 4), (RX7, TX7, 4), (RX8, TX8, 9), (RX9, TX9, 3), (RX10, TX10, 5), (RX11, TX11, 37)]
/-- the words that every method of ours has: those of the tables that keep -/
def sg_GT : List Cond := lw_tbl.filter goodWord
theorem sg_good : GoodIn lw_tbl sg_GT := fun w h => ⟨(List.mem_filter.mp h).1, good_of_word (List.mem_filter.mp h).2⟩
theorem sg_goodGT : GoodIn sg_GT sg_GT := fun w h => ⟨h, good_of_word (List.mem_filter.mp h).2⟩
theorem sg_inGT {w : Cond} (h : w ∈ tables_1) (hg : goodWord w = true) : w ∈ sg_GT := List.mem_filter.mpr ⟨List.mem_append_right _ h, hg⟩
end
section
/-! the world by numbers: the cells of the landed program from 0, those of the reference from 200 -/
def sg_cn : Nat → String := fun k => match k with
  | 0 => RX0
  | 1 => RX1
  | 2 => RX2
  | 3 => RX3
  | 4 => RX4
  | 5 => RX5
  | 6 => RX6
  | 7 => RX7
  | 8 => RX8
  | 9 => RX9
  | 10 => RX10
  | 11 => RX11
  | 20 => RJ0
  | 21 => RJ1
  | 26 => RJ6
  | 27 => RJ7
  | 29 => RJ9
  | 30 => RL
  | _ => ""
def sg_sh1 : List (Nat × Int) := [(0, 4), (0, 7), (1, 23), (0, 7), (1, 29), (0, 8), (1, 8), (1, 8), (1, 30), (1, 6), (1, 6), (1, 6), (1, 6), (0, 2), (1, 8), (1, 8), (1, 8), (0, 9), (1, 24), (1, 24), (2, 24), (0, 1), (1, 6), (1, 6), (1, 6), (1, 8), (1, 144), (1, 144), (1, 144), (1, 192), (1, 24), (1, 24), (0, 1), (1, 6), (1, 6), (1, 6), (1, 8), (1, 144), (1, 144), (1, 144), (1, 192), (1, 24), (1, 24), (1, 256), (0, 10), (0, 5), (0, 3), (1, 8), (1, 8), (1, 8), (4, 10), (1, 24), (1, 24), (1, 24), (1, 24), (1, 24), (1, 24), (1, 24), (1, 24), (1, 24), (1, 24), (0, 0), (3, 9), (0, 2), (1, 8), (1, 8), (1, 8), (0, 6), (1, 4), (1, 4), (4, 4), (1, 60), (1, 60), (1, 60), (1, 60)]
def sg_sh2 : List (Nat × Int) := [(0, 11), (1, 4), (1, 4), (1, 240), (1, 60), (1, 64), (1, 2), (1, 16), (1, 24), (1, 24), (1, 6), (1, 6), (1, 6), (2, 6), (1, 6), (1, 6), (1, 8), (1, 8), (1, 192), (1, 192), (1, 192), (1, 192), (1, 192), (1, 192), (1, 192), (1, 24), (1, 240), (1, 24)]
/-- what a cell is: 0 an object (and of which kind), 1 ints, 2 booleans, 3 longs, 4 rows of ints; how many -/
def sg_sh (c : Int) : Nat × Int := if c < 200 then sg_sh1.getD c.toNat (9, 0) else sg_sh2.getD (c - 200).toNat (9, 0)
def sg_nfl : List Nat := [4, 17, 4, 6, 8, 5, 4, 4, 9, 3, 5, 37]
def sg_nf (ci : Nat) : Nat := sg_nfl.getD ci 0
/-- the kind of a field: 0 an int, 2 a cell -/
def sg_ftl : List (List Nat) := [[2, 2, 2, 0], [2, 2, 2, 2, 2, 2, 2, 2, 2, 2, 2, 2, 0, 0, 0, 0, 0], [0, 2, 2, 2], [2, 0, 2, 2, 2, 2], [2, 2, 2, 2, 2, 2, 2, 2], [2, 0, 0, 0, 0], [2, 2, 2, 0], [0, 0, 2, 0], [0, 2, 2, 2, 0, 2, 2, 2, 2], [2, 2, 2], [2, 2, 2, 2, 2], [2, 2, 2, 2, 0, 2, 2, 0, 2, 0, 2, 0, 2, 0, 0, 0, 0, 2, 2, 2, 2, 2, 2, 2, 2, 2, 2, 2, 2, 2, 2, 2, 0, 2, 2, 0, 2]]
def sg_ft (ci k : Nat) : Nat := (sg_ftl.getD ci []).getD k 0
def sg_rrl : List (Int × Nat × Int) := [(0, 0, 1), (0, 1, 3), (0, 2, 5), (0, 3, 13), (0, 4, 17), (0, 5, 21), (0, 6, 32), (0, 7, 43), (1, 2, 2), (3, 2, 4), (5, 1, 6), (5, 2, 7), (5, 3, 8), (5, 5, 9), (5, 6, 10), (5, 7, 11), (5, 8, 12), (13, 1, 14), (13, 2, 15), (13, 3, 16), (17, 0, 18), (17, 1, 19), (17, 2, 20), (21, 0, 5), (21, 1, 17), (21, 2, 22), (21, 3, 23), (21, 4, 24), (21, 5, 25), (21, 6, 26), (21, 7, 27), (21, 8, 28), (21, 9, 29), (21, 10, 30), (21, 11, 31), (32, 0, 5), (32, 1, 17), (32, 2, 33), (32, 3, 34), (32, 4, 35), (32, 5, 36), (32, 6, 37), (32, 7, 38), (32, 8, 39), (32, 9, 40), (32, 10, 41), (32, 11, 42), (44, 0, 0), (44, 1, 45), (44, 2, 46), (44, 3, 61), (44, 4, 67), (45, 0, 0), (46, 0, 0), (46, 2, 47), (46, 3, 48), (46, 4, 49), (46, 5, 50), (61, 0, 0), (61, 1, 63), (61, 2, 62), (63, 1, 64), (63, 2, 65), (63, 3, 66), (67, 0, 68), (67, 1, 69), (67, 2, 70), (200, 0, 201), (200, 1, 202), (200, 2, 203), (200, 3, 204), (200, 5, 205), (200, 6, 206), (200, 8, 207), (200, 10, 208), (200, 12, 209), (200, 17, 210), (200, 18, 211), (200, 19, 212), (200, 20, 213), (200, 21, 214), (200, 22, 215), (200, 23, 216), (200, 24, 217), (200, 25, 218), (200, 26, 219), (200, 27, 220), (200, 28, 221), (200, 29, 222), (200, 30, 223), (200, 31, 224), (200, 33, 225), (200, 34, 226), (200, 36, 227)]
/-- which cell a field of a cell holds -/
def sg_rr (c : Int) (k : Nat) : Int := ((sg_rrl.find? (fun q => decide (q.1 = c) && decide (q.2.1 = k))).map (fun q => q.2.2)).getD 0
/-- the first of the rows of a cell of rows -/
def sg_qb (c : Int) : Int := if c = 50 then 51 else if c = 70 then 71 else 0
theorem sg_l0 : ∀ w ∈ wsX00, w ∈ sg_GT := by
  have h : wsX00 = ([550, 552, 554, 556] : List Nat).filterMap (fun i => tables_1[i]?) := by decide +kernel
  have hg : wsX00.all goodWord = true := by decide +kernel
  intro w hw
  have h2 := List.all_eq_true.mp hg w hw
  rw [h] at hw
  obtain ⟨i, -, hi⟩ := List.mem_filterMap.mp hw
  exact sg_inGT (List.mem_of_getElem? hi) h2
theorem sg_l1 : ∀ w ∈ wsX10, w ∈ sg_GT := by
  have h : wsX10 = ([198, 200, 202, 204, 206, 208, 210, 212, 214, 216, 218, 220, 222, 224, 226, 228, 230] : List Nat).filterMap (fun i => tables_1[i]?) := by decide +kernel
  have hg : wsX10.all goodWord = true := by decide +kernel
  intro w hw
  have h2 := List.all_eq_true.mp hg w hw
  rw [h] at hw
  obtain ⟨i, -, hi⟩ := List.mem_filterMap.mp hw
  exact sg_inGT (List.mem_of_getElem? hi) h2
theorem sg_l2 : ∀ w ∈ wsX20, w ∈ sg_GT := by
  have h : wsX20 = ([129, 131, 133, 135] : List Nat).filterMap (fun i => tables_1[i]?) := by decide +kernel
  have hg : wsX20.all goodWord = true := by decide +kernel
  intro w hw
  have h2 := List.all_eq_true.mp hg w hw
  rw [h] at hw
  obtain ⟨i, -, hi⟩ := List.mem_filterMap.mp hw
  exact sg_inGT (List.mem_of_getElem? hi) h2
theorem sg_l3 : ∀ w ∈ wsX30, w ∈ sg_GT := by
  have h : wsX30 = ([525, 527, 529, 531, 533, 535] : List Nat).filterMap (fun i => tables_1[i]?) := by decide +kernel
  have hg : wsX30.all goodWord = true := by decide +kernel
  intro w hw
  have h2 := List.all_eq_true.mp hg w hw
  rw [h] at hw
  obtain ⟨i, -, hi⟩ := List.mem_filterMap.mp hw
  exact sg_inGT (List.mem_of_getElem? hi) h2
theorem sg_l4 : ∀ w ∈ wsX40, w ∈ sg_GT := by
  have h : wsX40 = ([466, 468, 470, 472, 474, 476, 478, 480] : List Nat).filterMap (fun i => tables_1[i]?) := by decide +kernel
  have hg : wsX40.all goodWord = true := by decide +kernel
  intro w hw
  have h2 := List.all_eq_true.mp hg w hw
  rw [h] at hw
  obtain ⟨i, -, hi⟩ := List.mem_filterMap.mp hw
  exact sg_inGT (List.mem_of_getElem? hi) h2
theorem sg_l5 : ∀ w ∈ wsX50, w ∈ sg_GT := by
  have h : wsX50 = ([499, 501, 503, 505, 507] : List Nat).filterMap (fun i => tables_1[i]?) := by decide +kernel
  have hg : wsX50.all goodWord = true := by decide +kernel
  intro w hw
  have h2 := List.all_eq_true.mp hg w hw
  rw [h] at hw
  obtain ⟨i, -, hi⟩ := List.mem_filterMap.mp hw
  exact sg_inGT (List.mem_of_getElem? hi) h2
theorem sg_l6 : ∀ w ∈ wsX60, w ∈ sg_GT := by
  have h : wsX60 = ([573, 575, 577, 579] : List Nat).filterMap (fun i => tables_1[i]?) := by decide +kernel
  have hg : wsX60.all goodWord = true := by decide +kernel
  intro w hw
  have h2 := List.all_eq_true.mp hg w hw
  rw [h] at hw
  obtain ⟨i, -, hi⟩ := List.mem_filterMap.mp hw
  exact sg_inGT (List.mem_of_getElem? hi) h2
theorem sg_l7 : ∀ w ∈ wsX70, w ∈ sg_GT := by
  have h : wsX70 = ([47, 49, 51, 53] : List Nat).filterMap (fun i => tables_1[i]?) := by decide +kernel
  have hg : wsX70.all goodWord = true := by decide +kernel
  intro w hw
  have h2 := List.all_eq_true.mp hg w hw
  rw [h] at hw
  obtain ⟨i, -, hi⟩ := List.mem_filterMap.mp hw
  exact sg_inGT (List.mem_of_getElem? hi) h2
theorem sg_l8 : ∀ w ∈ wsX80, w ∈ sg_GT := by
  have h : wsX80 = ([92, 94, 96, 98, 100, 102, 104, 106, 108] : List Nat).filterMap (fun i => tables_1[i]?) := by decide +kernel
  have hg : wsX80.all goodWord = true := by decide +kernel
  intro w hw
  have h2 := List.all_eq_true.mp hg w hw
  rw [h] at hw
  obtain ⟨i, -, hi⟩ := List.mem_filterMap.mp hw
  exact sg_inGT (List.mem_of_getElem? hi) h2
theorem sg_l9 : ∀ w ∈ wsX90, w ∈ sg_GT := by
  have h : wsX90 = ([152, 154, 156] : List Nat).filterMap (fun i => tables_1[i]?) := by decide +kernel
  have hg : wsX90.all goodWord = true := by decide +kernel
  intro w hw
  have h2 := List.all_eq_true.mp hg w hw
  rw [h] at hw
  obtain ⟨i, -, hi⟩ := List.mem_filterMap.mp hw
  exact sg_inGT (List.mem_of_getElem? hi) h2
theorem sg_l10 : ∀ w ∈ wsX100, w ∈ sg_GT := by
  have h : wsX100 = ([587, 589, 591, 593, 595] : List Nat).filterMap (fun i => tables_1[i]?) := by decide +kernel
  have hg : wsX100.all goodWord = true := by decide +kernel
  intro w hw
  have h2 := List.all_eq_true.mp hg w hw
  rw [h] at hw
  obtain ⟨i, -, hi⟩ := List.mem_filterMap.mp hw
  exact sg_inGT (List.mem_of_getElem? hi) h2
theorem sg_l11 : ∀ w ∈ wsX110, w ∈ sg_GT := by
  have h : wsX110 = ([1007, 1009, 1011, 1013, 1015, 1017, 1019, 1021, 1023, 1025, 1027, 1029, 1031, 1033, 1035, 1037, 1039, 1041, 1043, 1045, 1047, 1049, 1051, 1053, 1055, 1057, 1059, 1061, 1063, 1065, 1067, 1069, 1071, 1073, 1075, 1077, 1079] : List Nat).filterMap (fun i => tables_1[i]?) := by decide +kernel
  have hg : wsX110.all goodWord = true := by decide +kernel
  intro w hw
  have h2 := List.all_eq_true.mp hg w hw
  rw [h] at hw
  obtain ⟨i, -, hi⟩ := List.mem_filterMap.mp hw
  exact sg_inGT (List.mem_of_getElem? hi) h2
/-- a field link: own file, place in its pool, the kind of object, the slot -/
def sg_FL (own idx ci k : Nat) : Prop := ∃ (C : String) (T : u_T) (N : Nat), vwCl[ci]? = some (C, T, N) ∧ sg_nf ci = N ∧ k < N ∧ (∀ w ∈ u_ws C T N, w ∈ sg_GT) ∧ Cond.fieldLink (sg_cn own) idx (T k).1 (T k).2.1 (T k).2.2.1 ∈ sg_GT
/-- a field that may be written behind the making: an int -/
def sg_FP (ci k : Nat) : Prop := ∃ (C : String) (T : u_T) (N : Nat) (ty0 : Nat → FieldType), vwCl[ci]? = some (C, T, N) ∧ (∀ k, k < N → parseFieldDescriptor (T k).2.2.1 = some (ty0 k)) ∧ (∀ a, a < N → ∀ b, b < N → a ≠ b → (T a).2.1 ≠ (T b).2.1) ∧ (T k).2.2.2 = false ∧ parseFieldDescriptor (T k).2.2.1 = some .int ∧ sg_ft ci k = 0
theorem sg_f0 : sg_FL 7 9 7 0 := ⟨RX7, TX7, 4, rfl, rfl, by decide, sg_l7, sg_inGT (List.mem_of_getElem? (i := 42) (by decide +kernel)) rfl⟩
theorem sg_f1 : sg_FL 7 15 7 1 := ⟨RX7, TX7, 4, rfl, rfl, by decide, sg_l7, sg_inGT (List.mem_of_getElem? (i := 43) (by decide +kernel)) rfl⟩
theorem sg_f2 : sg_FL 7 19 7 2 := ⟨RX7, TX7, 4, rfl, rfl, by decide, sg_l7, sg_inGT (List.mem_of_getElem? (i := 44) (by decide +kernel)) rfl⟩
theorem sg_f3 : sg_FL 7 23 7 3 := ⟨RX7, TX7, 4, rfl, rfl, by decide, sg_l7, sg_inGT (List.mem_of_getElem? (i := 45) (by decide +kernel)) rfl⟩
theorem sg_f4 : sg_FL 10 269 7 3 := ⟨RX7, TX7, 4, rfl, rfl, by decide, sg_l7, sg_inGT (List.mem_of_getElem? (i := 46) (by decide +kernel)) rfl⟩
theorem sg_f5 : sg_FL 8 45 8 0 := ⟨RX8, TX8, 9, rfl, rfl, by decide, sg_l8, sg_inGT (List.mem_of_getElem? (i := 63) (by decide +kernel)) rfl⟩
theorem sg_f6 : sg_FL 5 28 8 0 := ⟨RX8, TX8, 9, rfl, rfl, by decide, sg_l8, sg_inGT (List.mem_of_getElem? (i := 64) (by decide +kernel)) rfl⟩
theorem sg_f7 : sg_FL 1 136 8 0 := ⟨RX8, TX8, 9, rfl, rfl, by decide, sg_l8, sg_inGT (List.mem_of_getElem? (i := 65) (by decide +kernel)) rfl⟩
theorem sg_f8 : sg_FL 3 103 8 0 := ⟨RX8, TX8, 9, rfl, rfl, by decide, sg_l8, sg_inGT (List.mem_of_getElem? (i := 66) (by decide +kernel)) rfl⟩
theorem sg_f9 : sg_FL 10 259 8 0 := ⟨RX8, TX8, 9, rfl, rfl, by decide, sg_l8, sg_inGT (List.mem_of_getElem? (i := 67) (by decide +kernel)) rfl⟩
theorem sg_f10 : sg_FL 8 9 8 1 := ⟨RX8, TX8, 9, rfl, rfl, by decide, sg_l8, sg_inGT (List.mem_of_getElem? (i := 68) (by decide +kernel)) rfl⟩
theorem sg_f11 : sg_FL 10 81 8 1 := ⟨RX8, TX8, 9, rfl, rfl, by decide, sg_l8, sg_inGT (List.mem_of_getElem? (i := 69) (by decide +kernel)) rfl⟩
theorem sg_f12 : sg_FL 8 15 8 2 := ⟨RX8, TX8, 9, rfl, rfl, by decide, sg_l8, sg_inGT (List.mem_of_getElem? (i := 70) (by decide +kernel)) rfl⟩
theorem sg_f13 : sg_FL 10 87 8 2 := ⟨RX8, TX8, 9, rfl, rfl, by decide, sg_l8, sg_inGT (List.mem_of_getElem? (i := 71) (by decide +kernel)) rfl⟩
theorem sg_f14 : sg_FL 8 18 8 3 := ⟨RX8, TX8, 9, rfl, rfl, by decide, sg_l8, sg_inGT (List.mem_of_getElem? (i := 72) (by decide +kernel)) rfl⟩
theorem sg_f15 : sg_FL 1 69 8 4 := ⟨RX8, TX8, 9, rfl, rfl, by decide, sg_l8, sg_inGT (List.mem_of_getElem? (i := 73) (by decide +kernel)) rfl⟩
theorem sg_f16 : sg_FL 8 58 8 4 := ⟨RX8, TX8, 9, rfl, rfl, by decide, sg_l8, sg_inGT (List.mem_of_getElem? (i := 74) (by decide +kernel)) rfl⟩
theorem sg_f17 : sg_FL 5 64 8 4 := ⟨RX8, TX8, 9, rfl, rfl, by decide, sg_l8, sg_inGT (List.mem_of_getElem? (i := 75) (by decide +kernel)) rfl⟩
theorem sg_f18 : sg_FL 10 262 8 4 := ⟨RX8, TX8, 9, rfl, rfl, by decide, sg_l8, sg_inGT (List.mem_of_getElem? (i := 76) (by decide +kernel)) rfl⟩
theorem sg_f19 : sg_FL 8 21 8 5 := ⟨RX8, TX8, 9, rfl, rfl, by decide, sg_l8, sg_inGT (List.mem_of_getElem? (i := 77) (by decide +kernel)) rfl⟩
theorem sg_f20 : sg_FL 3 60 8 5 := ⟨RX8, TX8, 9, rfl, rfl, by decide, sg_l8, sg_inGT (List.mem_of_getElem? (i := 78) (by decide +kernel)) rfl⟩
theorem sg_f21 : sg_FL 1 123 8 5 := ⟨RX8, TX8, 9, rfl, rfl, by decide, sg_l8, sg_inGT (List.mem_of_getElem? (i := 79) (by decide +kernel)) rfl⟩
theorem sg_f22 : sg_FL 10 93 8 5 := ⟨RX8, TX8, 9, rfl, rfl, by decide, sg_l8, sg_inGT (List.mem_of_getElem? (i := 80) (by decide +kernel)) rfl⟩
theorem sg_f23 : sg_FL 8 24 8 6 := ⟨RX8, TX8, 9, rfl, rfl, by decide, sg_l8, sg_inGT (List.mem_of_getElem? (i := 81) (by decide +kernel)) rfl⟩
theorem sg_f24 : sg_FL 5 33 8 6 := ⟨RX8, TX8, 9, rfl, rfl, by decide, sg_l8, sg_inGT (List.mem_of_getElem? (i := 82) (by decide +kernel)) rfl⟩
theorem sg_f25 : sg_FL 1 75 8 6 := ⟨RX8, TX8, 9, rfl, rfl, by decide, sg_l8, sg_inGT (List.mem_of_getElem? (i := 83) (by decide +kernel)) rfl⟩
theorem sg_f26 : sg_FL 10 96 8 6 := ⟨RX8, TX8, 9, rfl, rfl, by decide, sg_l8, sg_inGT (List.mem_of_getElem? (i := 84) (by decide +kernel)) rfl⟩
theorem sg_f27 : sg_FL 8 27 8 7 := ⟨RX8, TX8, 9, rfl, rfl, by decide, sg_l8, sg_inGT (List.mem_of_getElem? (i := 85) (by decide +kernel)) rfl⟩
theorem sg_f28 : sg_FL 1 76 8 7 := ⟨RX8, TX8, 9, rfl, rfl, by decide, sg_l8, sg_inGT (List.mem_of_getElem? (i := 86) (by decide +kernel)) rfl⟩
theorem sg_f29 : sg_FL 10 99 8 7 := ⟨RX8, TX8, 9, rfl, rfl, by decide, sg_l8, sg_inGT (List.mem_of_getElem? (i := 87) (by decide +kernel)) rfl⟩
theorem sg_f30 : sg_FL 8 30 8 8 := ⟨RX8, TX8, 9, rfl, rfl, by decide, sg_l8, sg_inGT (List.mem_of_getElem? (i := 88) (by decide +kernel)) rfl⟩
theorem sg_f31 : sg_FL 1 79 8 8 := ⟨RX8, TX8, 9, rfl, rfl, by decide, sg_l8, sg_inGT (List.mem_of_getElem? (i := 89) (by decide +kernel)) rfl⟩
theorem sg_f32 : sg_FL 3 74 8 8 := ⟨RX8, TX8, 9, rfl, rfl, by decide, sg_l8, sg_inGT (List.mem_of_getElem? (i := 90) (by decide +kernel)) rfl⟩
theorem sg_f33 : sg_FL 10 102 8 8 := ⟨RX8, TX8, 9, rfl, rfl, by decide, sg_l8, sg_inGT (List.mem_of_getElem? (i := 91) (by decide +kernel)) rfl⟩
theorem sg_f34 : sg_FL 0 31 2 0 := ⟨RX2, TX2, 4, rfl, rfl, by decide, sg_l2, sg_inGT (List.mem_of_getElem? (i := 117) (by decide +kernel)) rfl⟩
theorem sg_f35 : sg_FL 9 22 2 0 := ⟨RX2, TX2, 4, rfl, rfl, by decide, sg_l2, sg_inGT (List.mem_of_getElem? (i := 118) (by decide +kernel)) rfl⟩
theorem sg_f36 : sg_FL 2 25 2 0 := ⟨RX2, TX2, 4, rfl, rfl, by decide, sg_l2, sg_inGT (List.mem_of_getElem? (i := 119) (by decide +kernel)) rfl⟩
theorem sg_f37 : sg_FL 3 40 2 0 := ⟨RX2, TX2, 4, rfl, rfl, by decide, sg_l2, sg_inGT (List.mem_of_getElem? (i := 120) (by decide +kernel)) rfl⟩
theorem sg_f38 : sg_FL 5 87 2 0 := ⟨RX2, TX2, 4, rfl, rfl, by decide, sg_l2, sg_inGT (List.mem_of_getElem? (i := 121) (by decide +kernel)) rfl⟩
theorem sg_f39 : sg_FL 10 117 2 0 := ⟨RX2, TX2, 4, rfl, rfl, by decide, sg_l2, sg_inGT (List.mem_of_getElem? (i := 122) (by decide +kernel)) rfl⟩
theorem sg_f40 : sg_FL 2 9 2 1 := ⟨RX2, TX2, 4, rfl, rfl, by decide, sg_l2, sg_inGT (List.mem_of_getElem? (i := 123) (by decide +kernel)) rfl⟩
theorem sg_f41 : sg_FL 9 38 2 1 := ⟨RX2, TX2, 4, rfl, rfl, by decide, sg_l2, sg_inGT (List.mem_of_getElem? (i := 124) (by decide +kernel)) rfl⟩
theorem sg_f42 : sg_FL 2 15 2 2 := ⟨RX2, TX2, 4, rfl, rfl, by decide, sg_l2, sg_inGT (List.mem_of_getElem? (i := 125) (by decide +kernel)) rfl⟩
theorem sg_f43 : sg_FL 9 32 2 2 := ⟨RX2, TX2, 4, rfl, rfl, by decide, sg_l2, sg_inGT (List.mem_of_getElem? (i := 126) (by decide +kernel)) rfl⟩
theorem sg_f44 : sg_FL 2 18 2 3 := ⟨RX2, TX2, 4, rfl, rfl, by decide, sg_l2, sg_inGT (List.mem_of_getElem? (i := 127) (by decide +kernel)) rfl⟩
theorem sg_f45 : sg_FL 9 41 2 3 := ⟨RX2, TX2, 4, rfl, rfl, by decide, sg_l2, sg_inGT (List.mem_of_getElem? (i := 128) (by decide +kernel)) rfl⟩
theorem sg_f46 : sg_FL 9 9 9 0 := ⟨RX9, TX9, 3, rfl, rfl, by decide, sg_l9, sg_inGT (List.mem_of_getElem? (i := 144) (by decide +kernel)) rfl⟩
theorem sg_f47 : sg_FL 5 53 9 0 := ⟨RX9, TX9, 3, rfl, rfl, by decide, sg_l9, sg_inGT (List.mem_of_getElem? (i := 145) (by decide +kernel)) rfl⟩
theorem sg_f48 : sg_FL 1 111 9 0 := ⟨RX9, TX9, 3, rfl, rfl, by decide, sg_l9, sg_inGT (List.mem_of_getElem? (i := 146) (by decide +kernel)) rfl⟩
theorem sg_f49 : sg_FL 9 15 9 1 := ⟨RX9, TX9, 3, rfl, rfl, by decide, sg_l9, sg_inGT (List.mem_of_getElem? (i := 147) (by decide +kernel)) rfl⟩
theorem sg_f50 : sg_FL 5 61 9 1 := ⟨RX9, TX9, 3, rfl, rfl, by decide, sg_l9, sg_inGT (List.mem_of_getElem? (i := 148) (by decide +kernel)) rfl⟩
theorem sg_f51 : sg_FL 1 120 9 1 := ⟨RX9, TX9, 3, rfl, rfl, by decide, sg_l9, sg_inGT (List.mem_of_getElem? (i := 149) (by decide +kernel)) rfl⟩
theorem sg_f52 : sg_FL 9 18 9 2 := ⟨RX9, TX9, 3, rfl, rfl, by decide, sg_l9, sg_inGT (List.mem_of_getElem? (i := 150) (by decide +kernel)) rfl⟩
theorem sg_f53 : sg_FL 1 105 9 2 := ⟨RX9, TX9, 3, rfl, rfl, by decide, sg_l9, sg_inGT (List.mem_of_getElem? (i := 151) (by decide +kernel)) rfl⟩
theorem sg_f54 : sg_FL 1 42 1 0 := ⟨RX1, TX1, 17, rfl, rfl, by decide, sg_l1, sg_inGT (List.mem_of_getElem? (i := 166) (by decide +kernel)) rfl⟩
theorem sg_f55 : sg_FL 1 46 1 1 := ⟨RX1, TX1, 17, rfl, rfl, by decide, sg_l1, sg_inGT (List.mem_of_getElem? (i := 167) (by decide +kernel)) rfl⟩
theorem sg_f56 : sg_FL 1 9 1 2 := ⟨RX1, TX1, 17, rfl, rfl, by decide, sg_l1, sg_inGT (List.mem_of_getElem? (i := 168) (by decide +kernel)) rfl⟩
theorem sg_f57 : sg_FL 1 15 1 3 := ⟨RX1, TX1, 17, rfl, rfl, by decide, sg_l1, sg_inGT (List.mem_of_getElem? (i := 169) (by decide +kernel)) rfl⟩
theorem sg_f58 : sg_FL 1 18 1 4 := ⟨RX1, TX1, 17, rfl, rfl, by decide, sg_l1, sg_inGT (List.mem_of_getElem? (i := 170) (by decide +kernel)) rfl⟩
theorem sg_f59 : sg_FL 1 21 1 5 := ⟨RX1, TX1, 17, rfl, rfl, by decide, sg_l1, sg_inGT (List.mem_of_getElem? (i := 171) (by decide +kernel)) rfl⟩
theorem sg_f60 : sg_FL 1 24 1 6 := ⟨RX1, TX1, 17, rfl, rfl, by decide, sg_l1, sg_inGT (List.mem_of_getElem? (i := 172) (by decide +kernel)) rfl⟩
theorem sg_f61 : sg_FL 10 134 1 6 := ⟨RX1, TX1, 17, rfl, rfl, by decide, sg_l1, sg_inGT (List.mem_of_getElem? (i := 173) (by decide +kernel)) rfl⟩
theorem sg_f62 : sg_FL 1 27 1 7 := ⟨RX1, TX1, 17, rfl, rfl, by decide, sg_l1, sg_inGT (List.mem_of_getElem? (i := 174) (by decide +kernel)) rfl⟩
theorem sg_f63 : sg_FL 10 144 1 7 := ⟨RX1, TX1, 17, rfl, rfl, by decide, sg_l1, sg_inGT (List.mem_of_getElem? (i := 175) (by decide +kernel)) rfl⟩
theorem sg_f64 : sg_FL 1 30 1 8 := ⟨RX1, TX1, 17, rfl, rfl, by decide, sg_l1, sg_inGT (List.mem_of_getElem? (i := 176) (by decide +kernel)) rfl⟩
theorem sg_f65 : sg_FL 1 33 1 9 := ⟨RX1, TX1, 17, rfl, rfl, by decide, sg_l1, sg_inGT (List.mem_of_getElem? (i := 177) (by decide +kernel)) rfl⟩
theorem sg_f66 : sg_FL 10 145 1 9 := ⟨RX1, TX1, 17, rfl, rfl, by decide, sg_l1, sg_inGT (List.mem_of_getElem? (i := 178) (by decide +kernel)) rfl⟩
theorem sg_f67 : sg_FL 1 36 1 10 := ⟨RX1, TX1, 17, rfl, rfl, by decide, sg_l1, sg_inGT (List.mem_of_getElem? (i := 179) (by decide +kernel)) rfl⟩
theorem sg_f68 : sg_FL 10 137 1 10 := ⟨RX1, TX1, 17, rfl, rfl, by decide, sg_l1, sg_inGT (List.mem_of_getElem? (i := 180) (by decide +kernel)) rfl⟩
theorem sg_f69 : sg_FL 1 39 1 11 := ⟨RX1, TX1, 17, rfl, rfl, by decide, sg_l1, sg_inGT (List.mem_of_getElem? (i := 181) (by decide +kernel)) rfl⟩
theorem sg_f70 : sg_FL 3 77 1 11 := ⟨RX1, TX1, 17, rfl, rfl, by decide, sg_l1, sg_inGT (List.mem_of_getElem? (i := 182) (by decide +kernel)) rfl⟩
theorem sg_f71 : sg_FL 10 148 1 11 := ⟨RX1, TX1, 17, rfl, rfl, by decide, sg_l1, sg_inGT (List.mem_of_getElem? (i := 183) (by decide +kernel)) rfl⟩
theorem sg_f72 : sg_FL 5 58 1 12 := ⟨RX1, TX1, 17, rfl, rfl, by decide, sg_l1, sg_inGT (List.mem_of_getElem? (i := 184) (by decide +kernel)) rfl⟩
theorem sg_f73 : sg_FL 1 86 1 12 := ⟨RX1, TX1, 17, rfl, rfl, by decide, sg_l1, sg_inGT (List.mem_of_getElem? (i := 185) (by decide +kernel)) rfl⟩
theorem sg_f74 : sg_FL 10 166 1 12 := ⟨RX1, TX1, 17, rfl, rfl, by decide, sg_l1, sg_inGT (List.mem_of_getElem? (i := 186) (by decide +kernel)) rfl⟩
theorem sg_f75 : sg_FL 1 89 1 13 := ⟨RX1, TX1, 17, rfl, rfl, by decide, sg_l1, sg_inGT (List.mem_of_getElem? (i := 187) (by decide +kernel)) rfl⟩
theorem sg_f76 : sg_FL 5 74 1 13 := ⟨RX1, TX1, 17, rfl, rfl, by decide, sg_l1, sg_inGT (List.mem_of_getElem? (i := 188) (by decide +kernel)) rfl⟩
theorem sg_f77 : sg_FL 4 94 1 13 := ⟨RX1, TX1, 17, rfl, rfl, by decide, sg_l1, sg_inGT (List.mem_of_getElem? (i := 189) (by decide +kernel)) rfl⟩
theorem sg_f78 : sg_FL 10 154 1 13 := ⟨RX1, TX1, 17, rfl, rfl, by decide, sg_l1, sg_inGT (List.mem_of_getElem? (i := 190) (by decide +kernel)) rfl⟩
theorem sg_f79 : sg_FL 5 46 1 14 := ⟨RX1, TX1, 17, rfl, rfl, by decide, sg_l1, sg_inGT (List.mem_of_getElem? (i := 191) (by decide +kernel)) rfl⟩
theorem sg_f80 : sg_FL 1 92 1 14 := ⟨RX1, TX1, 17, rfl, rfl, by decide, sg_l1, sg_inGT (List.mem_of_getElem? (i := 192) (by decide +kernel)) rfl⟩
theorem sg_f81 : sg_FL 10 163 1 14 := ⟨RX1, TX1, 17, rfl, rfl, by decide, sg_l1, sg_inGT (List.mem_of_getElem? (i := 193) (by decide +kernel)) rfl⟩
theorem sg_f82 : sg_FL 1 95 1 15 := ⟨RX1, TX1, 17, rfl, rfl, by decide, sg_l1, sg_inGT (List.mem_of_getElem? (i := 194) (by decide +kernel)) rfl⟩
theorem sg_f83 : sg_FL 10 157 1 15 := ⟨RX1, TX1, 17, rfl, rfl, by decide, sg_l1, sg_inGT (List.mem_of_getElem? (i := 195) (by decide +kernel)) rfl⟩
theorem sg_f84 : sg_FL 1 98 1 16 := ⟨RX1, TX1, 17, rfl, rfl, by decide, sg_l1, sg_inGT (List.mem_of_getElem? (i := 196) (by decide +kernel)) rfl⟩
theorem sg_f85 : sg_FL 10 160 1 16 := ⟨RX1, TX1, 17, rfl, rfl, by decide, sg_l1, sg_inGT (List.mem_of_getElem? (i := 197) (by decide +kernel)) rfl⟩
theorem sg_f86 : sg_FL 4 14 4 0 := ⟨RX4, TX4, 8, rfl, rfl, by decide, sg_l4, sg_inGT (List.mem_of_getElem? (i := 443) (by decide +kernel)) rfl⟩
theorem sg_f87 : sg_FL 10 265 4 0 := ⟨RX4, TX4, 8, rfl, rfl, by decide, sg_l4, sg_inGT (List.mem_of_getElem? (i := 444) (by decide +kernel)) rfl⟩
theorem sg_f88 : sg_FL 4 20 4 1 := ⟨RX4, TX4, 8, rfl, rfl, by decide, sg_l4, sg_inGT (List.mem_of_getElem? (i := 445) (by decide +kernel)) rfl⟩
theorem sg_f89 : sg_FL 10 272 4 1 := ⟨RX4, TX4, 8, rfl, rfl, by decide, sg_l4, sg_inGT (List.mem_of_getElem? (i := 446) (by decide +kernel)) rfl⟩
theorem sg_f90 : sg_FL 4 26 4 2 := ⟨RX4, TX4, 8, rfl, rfl, by decide, sg_l4, sg_inGT (List.mem_of_getElem? (i := 447) (by decide +kernel)) rfl⟩
theorem sg_f91 : sg_FL 5 22 4 2 := ⟨RX4, TX4, 8, rfl, rfl, by decide, sg_l4, sg_inGT (List.mem_of_getElem? (i := 448) (by decide +kernel)) rfl⟩
theorem sg_f92 : sg_FL 3 56 4 2 := ⟨RX4, TX4, 8, rfl, rfl, by decide, sg_l4, sg_inGT (List.mem_of_getElem? (i := 449) (by decide +kernel)) rfl⟩
theorem sg_f93 : sg_FL 10 77 4 2 := ⟨RX4, TX4, 8, rfl, rfl, by decide, sg_l4, sg_inGT (List.mem_of_getElem? (i := 450) (by decide +kernel)) rfl⟩
theorem sg_f94 : sg_FL 4 33 4 3 := ⟨RX4, TX4, 8, rfl, rfl, by decide, sg_l4, sg_inGT (List.mem_of_getElem? (i := 451) (by decide +kernel)) rfl⟩
theorem sg_f95 : sg_FL 0 26 4 3 := ⟨RX4, TX4, 8, rfl, rfl, by decide, sg_l4, sg_inGT (List.mem_of_getElem? (i := 452) (by decide +kernel)) rfl⟩
theorem sg_f96 : sg_FL 3 34 4 3 := ⟨RX4, TX4, 8, rfl, rfl, by decide, sg_l4, sg_inGT (List.mem_of_getElem? (i := 453) (by decide +kernel)) rfl⟩
theorem sg_f97 : sg_FL 5 77 4 3 := ⟨RX4, TX4, 8, rfl, rfl, by decide, sg_l4, sg_inGT (List.mem_of_getElem? (i := 454) (by decide +kernel)) rfl⟩
theorem sg_f98 : sg_FL 10 111 4 3 := ⟨RX4, TX4, 8, rfl, rfl, by decide, sg_l4, sg_inGT (List.mem_of_getElem? (i := 455) (by decide +kernel)) rfl⟩
theorem sg_f99 : sg_FL 4 40 4 4 := ⟨RX4, TX4, 8, rfl, rfl, by decide, sg_l4, sg_inGT (List.mem_of_getElem? (i := 456) (by decide +kernel)) rfl⟩
theorem sg_f100 : sg_FL 5 49 4 4 := ⟨RX4, TX4, 8, rfl, rfl, by decide, sg_l4, sg_inGT (List.mem_of_getElem? (i := 457) (by decide +kernel)) rfl⟩
theorem sg_f101 : sg_FL 4 49 4 5 := ⟨RX4, TX4, 8, rfl, rfl, by decide, sg_l4, sg_inGT (List.mem_of_getElem? (i := 458) (by decide +kernel)) rfl⟩
theorem sg_f102 : sg_FL 5 71 4 5 := ⟨RX4, TX4, 8, rfl, rfl, by decide, sg_l4, sg_inGT (List.mem_of_getElem? (i := 459) (by decide +kernel)) rfl⟩
theorem sg_f103 : sg_FL 10 130 4 5 := ⟨RX4, TX4, 8, rfl, rfl, by decide, sg_l4, sg_inGT (List.mem_of_getElem? (i := 460) (by decide +kernel)) rfl⟩
theorem sg_f104 : sg_FL 4 53 4 6 := ⟨RX4, TX4, 8, rfl, rfl, by decide, sg_l4, sg_inGT (List.mem_of_getElem? (i := 461) (by decide +kernel)) rfl⟩
theorem sg_f105 : sg_FL 5 37 4 6 := ⟨RX4, TX4, 8, rfl, rfl, by decide, sg_l4, sg_inGT (List.mem_of_getElem? (i := 462) (by decide +kernel)) rfl⟩
theorem sg_f106 : sg_FL 3 65 4 6 := ⟨RX4, TX4, 8, rfl, rfl, by decide, sg_l4, sg_inGT (List.mem_of_getElem? (i := 463) (by decide +kernel)) rfl⟩
theorem sg_f107 : sg_FL 0 69 4 6 := ⟨RX4, TX4, 8, rfl, rfl, by decide, sg_l4, sg_inGT (List.mem_of_getElem? (i := 464) (by decide +kernel)) rfl⟩
theorem sg_f108 : sg_FL 4 56 4 7 := ⟨RX4, TX4, 8, rfl, rfl, by decide, sg_l4, sg_inGT (List.mem_of_getElem? (i := 465) (by decide +kernel)) rfl⟩
theorem sg_f109 : sg_FL 5 9 5 0 := ⟨RX5, TX5, 5, rfl, rfl, by decide, sg_l5, sg_inGT (List.mem_of_getElem? (i := 490) (by decide +kernel)) rfl⟩
theorem sg_f110 : sg_FL 5 15 5 1 := ⟨RX5, TX5, 5, rfl, rfl, by decide, sg_l5, sg_inGT (List.mem_of_getElem? (i := 491) (by decide +kernel)) rfl⟩
theorem sg_f111 : sg_FL 10 179 5 1 := ⟨RX5, TX5, 5, rfl, rfl, by decide, sg_l5, sg_inGT (List.mem_of_getElem? (i := 492) (by decide +kernel)) rfl⟩
theorem sg_f112 : sg_FL 5 19 5 2 := ⟨RX5, TX5, 5, rfl, rfl, by decide, sg_l5, sg_inGT (List.mem_of_getElem? (i := 493) (by decide +kernel)) rfl⟩
theorem sg_f113 : sg_FL 10 182 5 2 := ⟨RX5, TX5, 5, rfl, rfl, by decide, sg_l5, sg_inGT (List.mem_of_getElem? (i := 494) (by decide +kernel)) rfl⟩
theorem sg_f114 : sg_FL 5 93 5 3 := ⟨RX5, TX5, 5, rfl, rfl, by decide, sg_l5, sg_inGT (List.mem_of_getElem? (i := 495) (by decide +kernel)) rfl⟩
theorem sg_f115 : sg_FL 10 194 5 3 := ⟨RX5, TX5, 5, rfl, rfl, by decide, sg_l5, sg_inGT (List.mem_of_getElem? (i := 496) (by decide +kernel)) rfl⟩
theorem sg_f116 : sg_FL 5 96 5 4 := ⟨RX5, TX5, 5, rfl, rfl, by decide, sg_l5, sg_inGT (List.mem_of_getElem? (i := 497) (by decide +kernel)) rfl⟩
theorem sg_f117 : sg_FL 10 197 5 4 := ⟨RX5, TX5, 5, rfl, rfl, by decide, sg_l5, sg_inGT (List.mem_of_getElem? (i := 498) (by decide +kernel)) rfl⟩
theorem sg_f118 : sg_FL 3 26 3 0 := ⟨RX3, TX3, 6, rfl, rfl, by decide, sg_l3, sg_inGT (List.mem_of_getElem? (i := 518) (by decide +kernel)) rfl⟩
theorem sg_f119 : sg_FL 3 30 3 1 := ⟨RX3, TX3, 6, rfl, rfl, by decide, sg_l3, sg_inGT (List.mem_of_getElem? (i := 519) (by decide +kernel)) rfl⟩
theorem sg_f120 : sg_FL 10 204 3 1 := ⟨RX3, TX3, 6, rfl, rfl, by decide, sg_l3, sg_inGT (List.mem_of_getElem? (i := 520) (by decide +kernel)) rfl⟩
theorem sg_f121 : sg_FL 3 9 3 2 := ⟨RX3, TX3, 6, rfl, rfl, by decide, sg_l3, sg_inGT (List.mem_of_getElem? (i := 521) (by decide +kernel)) rfl⟩
theorem sg_f122 : sg_FL 3 15 3 3 := ⟨RX3, TX3, 6, rfl, rfl, by decide, sg_l3, sg_inGT (List.mem_of_getElem? (i := 522) (by decide +kernel)) rfl⟩
theorem sg_f123 : sg_FL 3 18 3 4 := ⟨RX3, TX3, 6, rfl, rfl, by decide, sg_l3, sg_inGT (List.mem_of_getElem? (i := 523) (by decide +kernel)) rfl⟩
theorem sg_f124 : sg_FL 3 23 3 5 := ⟨RX3, TX3, 6, rfl, rfl, by decide, sg_l3, sg_inGT (List.mem_of_getElem? (i := 524) (by decide +kernel)) rfl⟩
theorem sg_f125 : sg_FL 0 22 0 0 := ⟨RX0, TX0, 4, rfl, rfl, by decide, sg_l0, sg_inGT (List.mem_of_getElem? (i := 546) (by decide +kernel)) rfl⟩
theorem sg_f126 : sg_FL 0 12 0 1 := ⟨RX0, TX0, 4, rfl, rfl, by decide, sg_l0, sg_inGT (List.mem_of_getElem? (i := 547) (by decide +kernel)) rfl⟩
theorem sg_f127 : sg_FL 0 18 0 2 := ⟨RX0, TX0, 4, rfl, rfl, by decide, sg_l0, sg_inGT (List.mem_of_getElem? (i := 548) (by decide +kernel)) rfl⟩
theorem sg_f128 : sg_FL 0 55 0 3 := ⟨RX0, TX0, 4, rfl, rfl, by decide, sg_l0, sg_inGT (List.mem_of_getElem? (i := 549) (by decide +kernel)) rfl⟩
theorem sg_f129 : sg_FL 6 11 6 0 := ⟨RX6, TX6, 4, rfl, rfl, by decide, sg_l6, sg_inGT (List.mem_of_getElem? (i := 568) (by decide +kernel)) rfl⟩
theorem sg_f130 : sg_FL 6 15 6 1 := ⟨RX6, TX6, 4, rfl, rfl, by decide, sg_l6, sg_inGT (List.mem_of_getElem? (i := 569) (by decide +kernel)) rfl⟩
theorem sg_f131 : sg_FL 6 20 6 2 := ⟨RX6, TX6, 4, rfl, rfl, by decide, sg_l6, sg_inGT (List.mem_of_getElem? (i := 570) (by decide +kernel)) rfl⟩
theorem sg_f132 : sg_FL 6 53 6 3 := ⟨RX6, TX6, 4, rfl, rfl, by decide, sg_l6, sg_inGT (List.mem_of_getElem? (i := 571) (by decide +kernel)) rfl⟩
theorem sg_f133 : sg_FL 10 275 6 3 := ⟨RX6, TX6, 4, rfl, rfl, by decide, sg_l6, sg_inGT (List.mem_of_getElem? (i := 572) (by decide +kernel)) rfl⟩
theorem sg_f134 : sg_FL 10 10 10 0 := ⟨RX10, TX10, 5, rfl, rfl, by decide, sg_l10, sg_inGT (List.mem_of_getElem? (i := 582) (by decide +kernel)) rfl⟩
theorem sg_f135 : sg_FL 10 21 10 1 := ⟨RX10, TX10, 5, rfl, rfl, by decide, sg_l10, sg_inGT (List.mem_of_getElem? (i := 583) (by decide +kernel)) rfl⟩
theorem sg_f136 : sg_FL 10 28 10 2 := ⟨RX10, TX10, 5, rfl, rfl, by decide, sg_l10, sg_inGT (List.mem_of_getElem? (i := 584) (by decide +kernel)) rfl⟩
theorem sg_f137 : sg_FL 10 35 10 3 := ⟨RX10, TX10, 5, rfl, rfl, by decide, sg_l10, sg_inGT (List.mem_of_getElem? (i := 585) (by decide +kernel)) rfl⟩
theorem sg_f138 : sg_FL 10 42 10 4 := ⟨RX10, TX10, 5, rfl, rfl, by decide, sg_l10, sg_inGT (List.mem_of_getElem? (i := 586) (by decide +kernel)) rfl⟩
theorem sg_f139 : sg_FL 11 7 11 0 := ⟨RX11, TX11, 37, rfl, rfl, by decide, sg_l11, sg_inGT (List.mem_of_getElem? (i := 970) (by decide +kernel)) rfl⟩
theorem sg_f140 : sg_FL 11 13 11 1 := ⟨RX11, TX11, 37, rfl, rfl, by decide, sg_l11, sg_inGT (List.mem_of_getElem? (i := 971) (by decide +kernel)) rfl⟩
theorem sg_f141 : sg_FL 11 16 11 2 := ⟨RX11, TX11, 37, rfl, rfl, by decide, sg_l11, sg_inGT (List.mem_of_getElem? (i := 972) (by decide +kernel)) rfl⟩
theorem sg_f142 : sg_FL 11 19 11 3 := ⟨RX11, TX11, 37, rfl, rfl, by decide, sg_l11, sg_inGT (List.mem_of_getElem? (i := 973) (by decide +kernel)) rfl⟩
theorem sg_f143 : sg_FL 11 102 11 4 := ⟨RX11, TX11, 37, rfl, rfl, by decide, sg_l11, sg_inGT (List.mem_of_getElem? (i := 974) (by decide +kernel)) rfl⟩
theorem sg_f144 : sg_FL 11 22 11 5 := ⟨RX11, TX11, 37, rfl, rfl, by decide, sg_l11, sg_inGT (List.mem_of_getElem? (i := 975) (by decide +kernel)) rfl⟩
theorem sg_f145 : sg_FL 11 25 11 6 := ⟨RX11, TX11, 37, rfl, rfl, by decide, sg_l11, sg_inGT (List.mem_of_getElem? (i := 976) (by decide +kernel)) rfl⟩
theorem sg_f146 : sg_FL 11 134 11 7 := ⟨RX11, TX11, 37, rfl, rfl, by decide, sg_l11, sg_inGT (List.mem_of_getElem? (i := 977) (by decide +kernel)) rfl⟩
theorem sg_f147 : sg_FL 11 28 11 8 := ⟨RX11, TX11, 37, rfl, rfl, by decide, sg_l11, sg_inGT (List.mem_of_getElem? (i := 978) (by decide +kernel)) rfl⟩
theorem sg_f148 : sg_FL 11 140 11 9 := ⟨RX11, TX11, 37, rfl, rfl, by decide, sg_l11, sg_inGT (List.mem_of_getElem? (i := 979) (by decide +kernel)) rfl⟩
theorem sg_f149 : sg_FL 11 31 11 10 := ⟨RX11, TX11, 37, rfl, rfl, by decide, sg_l11, sg_inGT (List.mem_of_getElem? (i := 980) (by decide +kernel)) rfl⟩
theorem sg_f150 : sg_FL 11 164 11 11 := ⟨RX11, TX11, 37, rfl, rfl, by decide, sg_l11, sg_inGT (List.mem_of_getElem? (i := 981) (by decide +kernel)) rfl⟩
theorem sg_f151 : sg_FL 11 34 11 12 := ⟨RX11, TX11, 37, rfl, rfl, by decide, sg_l11, sg_inGT (List.mem_of_getElem? (i := 982) (by decide +kernel)) rfl⟩
theorem sg_f152 : sg_FL 11 184 11 13 := ⟨RX11, TX11, 37, rfl, rfl, by decide, sg_l11, sg_inGT (List.mem_of_getElem? (i := 983) (by decide +kernel)) rfl⟩
theorem sg_f153 : sg_FL 11 92 11 14 := ⟨RX11, TX11, 37, rfl, rfl, by decide, sg_l11, sg_inGT (List.mem_of_getElem? (i := 984) (by decide +kernel)) rfl⟩
theorem sg_f154 : sg_FL 11 178 11 15 := ⟨RX11, TX11, 37, rfl, rfl, by decide, sg_l11, sg_inGT (List.mem_of_getElem? (i := 985) (by decide +kernel)) rfl⟩
theorem sg_f155 : sg_FL 11 181 11 16 := ⟨RX11, TX11, 37, rfl, rfl, by decide, sg_l11, sg_inGT (List.mem_of_getElem? (i := 986) (by decide +kernel)) rfl⟩
theorem sg_f156 : sg_FL 11 37 11 17 := ⟨RX11, TX11, 37, rfl, rfl, by decide, sg_l11, sg_inGT (List.mem_of_getElem? (i := 987) (by decide +kernel)) rfl⟩
theorem sg_f157 : sg_FL 11 40 11 18 := ⟨RX11, TX11, 37, rfl, rfl, by decide, sg_l11, sg_inGT (List.mem_of_getElem? (i := 988) (by decide +kernel)) rfl⟩
theorem sg_f158 : sg_FL 11 43 11 19 := ⟨RX11, TX11, 37, rfl, rfl, by decide, sg_l11, sg_inGT (List.mem_of_getElem? (i := 989) (by decide +kernel)) rfl⟩
theorem sg_f159 : sg_FL 11 46 11 20 := ⟨RX11, TX11, 37, rfl, rfl, by decide, sg_l11, sg_inGT (List.mem_of_getElem? (i := 990) (by decide +kernel)) rfl⟩
theorem sg_f160 : sg_FL 11 50 11 21 := ⟨RX11, TX11, 37, rfl, rfl, by decide, sg_l11, sg_inGT (List.mem_of_getElem? (i := 991) (by decide +kernel)) rfl⟩
theorem sg_f161 : sg_FL 11 53 11 22 := ⟨RX11, TX11, 37, rfl, rfl, by decide, sg_l11, sg_inGT (List.mem_of_getElem? (i := 992) (by decide +kernel)) rfl⟩
theorem sg_f162 : sg_FL 11 56 11 23 := ⟨RX11, TX11, 37, rfl, rfl, by decide, sg_l11, sg_inGT (List.mem_of_getElem? (i := 993) (by decide +kernel)) rfl⟩
theorem sg_f163 : sg_FL 11 59 11 24 := ⟨RX11, TX11, 37, rfl, rfl, by decide, sg_l11, sg_inGT (List.mem_of_getElem? (i := 994) (by decide +kernel)) rfl⟩
theorem sg_f164 : sg_FL 11 62 11 25 := ⟨RX11, TX11, 37, rfl, rfl, by decide, sg_l11, sg_inGT (List.mem_of_getElem? (i := 995) (by decide +kernel)) rfl⟩
theorem sg_f165 : sg_FL 11 65 11 26 := ⟨RX11, TX11, 37, rfl, rfl, by decide, sg_l11, sg_inGT (List.mem_of_getElem? (i := 996) (by decide +kernel)) rfl⟩
theorem sg_f166 : sg_FL 11 68 11 27 := ⟨RX11, TX11, 37, rfl, rfl, by decide, sg_l11, sg_inGT (List.mem_of_getElem? (i := 997) (by decide +kernel)) rfl⟩
theorem sg_f167 : sg_FL 11 71 11 28 := ⟨RX11, TX11, 37, rfl, rfl, by decide, sg_l11, sg_inGT (List.mem_of_getElem? (i := 998) (by decide +kernel)) rfl⟩
theorem sg_f168 : sg_FL 11 74 11 29 := ⟨RX11, TX11, 37, rfl, rfl, by decide, sg_l11, sg_inGT (List.mem_of_getElem? (i := 999) (by decide +kernel)) rfl⟩
theorem sg_f169 : sg_FL 11 77 11 30 := ⟨RX11, TX11, 37, rfl, rfl, by decide, sg_l11, sg_inGT (List.mem_of_getElem? (i := 1000) (by decide +kernel)) rfl⟩
theorem sg_f170 : sg_FL 11 80 11 31 := ⟨RX11, TX11, 37, rfl, rfl, by decide, sg_l11, sg_inGT (List.mem_of_getElem? (i := 1001) (by decide +kernel)) rfl⟩
theorem sg_f171 : sg_FL 11 269 11 32 := ⟨RX11, TX11, 37, rfl, rfl, by decide, sg_l11, sg_inGT (List.mem_of_getElem? (i := 1002) (by decide +kernel)) rfl⟩
theorem sg_f172 : sg_FL 11 83 11 33 := ⟨RX11, TX11, 37, rfl, rfl, by decide, sg_l11, sg_inGT (List.mem_of_getElem? (i := 1003) (by decide +kernel)) rfl⟩
theorem sg_f173 : sg_FL 11 86 11 34 := ⟨RX11, TX11, 37, rfl, rfl, by decide, sg_l11, sg_inGT (List.mem_of_getElem? (i := 1004) (by decide +kernel)) rfl⟩
theorem sg_f174 : sg_FL 11 309 11 35 := ⟨RX11, TX11, 37, rfl, rfl, by decide, sg_l11, sg_inGT (List.mem_of_getElem? (i := 1005) (by decide +kernel)) rfl⟩
theorem sg_f175 : sg_FL 11 89 11 36 := ⟨RX11, TX11, 37, rfl, rfl, by decide, sg_l11, sg_inGT (List.mem_of_getElem? (i := 1006) (by decide +kernel)) rfl⟩
def sg_fl : List (Nat × Nat × Nat × Nat) := [(7, 9, 7, 0), (7, 15, 7, 1), (7, 19, 7, 2), (7, 23, 7, 3), (10, 269, 7, 3), (8, 45, 8, 0), (5, 28, 8, 0), (1, 136, 8, 0), (3, 103, 8, 0), (10, 259, 8, 0), (8, 9, 8, 1), (10, 81, 8, 1), (8, 15, 8, 2), (10, 87, 8, 2), (8, 18, 8, 3), (1, 69, 8, 4), (8, 58, 8, 4), (5, 64, 8, 4), (10, 262, 8, 4), (8, 21, 8, 5), (3, 60, 8, 5), (1, 123, 8, 5), (10, 93, 8, 5), (8, 24, 8, 6), (5, 33, 8, 6), (1, 75, 8, 6), (10, 96, 8, 6), (8, 27, 8, 7), (1, 76, 8, 7), (10, 99, 8, 7), (8, 30, 8, 8), (1, 79, 8, 8), (3, 74, 8, 8), (10, 102, 8, 8), (0, 31, 2, 0), (9, 22, 2, 0), (2, 25, 2, 0), (3, 40, 2, 0), (5, 87, 2, 0), (10, 117, 2, 0), (2, 9, 2, 1), (9, 38, 2, 1), (2, 15, 2, 2), (9, 32, 2, 2), (2, 18, 2, 3), (9, 41, 2, 3), (9, 9, 9, 0), (5, 53, 9, 0), (1, 111, 9, 0), (9, 15, 9, 1), (5, 61, 9, 1), (1, 120, 9, 1), (9, 18, 9, 2), (1, 105, 9, 2), (1, 42, 1, 0), (1, 46, 1, 1), (1, 9, 1, 2), (1, 15, 1, 3), (1, 18, 1, 4), (1, 21, 1, 5), (1, 24, 1, 6), (10, 134, 1, 6), (1, 27, 1, 7), (10, 144, 1, 7), (1, 30, 1, 8), (1, 33, 1, 9), (10, 145, 1, 9), (1, 36, 1, 10), (10, 137, 1, 10), (1, 39, 1, 11), (3, 77, 1, 11), (10, 148, 1, 11), (5, 58, 1, 12), (1, 86, 1, 12), (10, 166, 1, 12), (1, 89, 1, 13), (5, 74, 1, 13), (4, 94, 1, 13), (10, 154, 1, 13), (5, 46, 1, 14), (1, 92, 1, 14), (10, 163, 1, 14), (1, 95, 1, 15), (10, 157, 1, 15), (1, 98, 1, 16), (10, 160, 1, 16), (4, 14, 4, 0), (10, 265, 4, 0), (4, 20, 4, 1), (10, 272, 4, 1), (4, 26, 4, 2), (5, 22, 4, 2), (3, 56, 4, 2), (10, 77, 4, 2), (4, 33, 4, 3), (0, 26, 4, 3), (3, 34, 4, 3), (5, 77, 4, 3), (10, 111, 4, 3), (4, 40, 4, 4), (5, 49, 4, 4), (4, 49, 4, 5), (5, 71, 4, 5), (10, 130, 4, 5), (4, 53, 4, 6), (5, 37, 4, 6), (3, 65, 4, 6), (0, 69, 4, 6), (4, 56, 4, 7), (5, 9, 5, 0), (5, 15, 5, 1), (10, 179, 5, 1), (5, 19, 5, 2), (10, 182, 5, 2), (5, 93, 5, 3), (10, 194, 5, 3), (5, 96, 5, 4), (10, 197, 5, 4), (3, 26, 3, 0), (3, 30, 3, 1), (10, 204, 3, 1), (3, 9, 3, 2), (3, 15, 3, 3), (3, 18, 3, 4), (3, 23, 3, 5), (0, 22, 0, 0), (0, 12, 0, 1), (0, 18, 0, 2), (0, 55, 0, 3), (6, 11, 6, 0), (6, 15, 6, 1), (6, 20, 6, 2), (6, 53, 6, 3), (10, 275, 6, 3), (10, 10, 10, 0), (10, 21, 10, 1), (10, 28, 10, 2), (10, 35, 10, 3), (10, 42, 10, 4), (11, 7, 11, 0), (11, 13, 11, 1), (11, 16, 11, 2), (11, 19, 11, 3), (11, 102, 11, 4), (11, 22, 11, 5), (11, 25, 11, 6), (11, 134, 11, 7), (11, 28, 11, 8), (11, 140, 11, 9), (11, 31, 11, 10), (11, 164, 11, 11), (11, 34, 11, 12), (11, 184, 11, 13), (11, 92, 11, 14), (11, 178, 11, 15), (11, 181, 11, 16), (11, 37, 11, 17), (11, 40, 11, 18), (11, 43, 11, 19), (11, 46, 11, 20), (11, 50, 11, 21), (11, 53, 11, 22), (11, 56, 11, 23), (11, 59, 11, 24), (11, 62, 11, 25), (11, 65, 11, 26), (11, 68, 11, 27), (11, 71, 11, 28), (11, 74, 11, 29), (11, 77, 11, 30), (11, 80, 11, 31), (11, 269, 11, 32), (11, 83, 11, 33), (11, 86, 11, 34), (11, 309, 11, 35), (11, 89, 11, 36)]
set_option maxRecDepth 100000 in
theorem sg_fl_ok : ∀ e ∈ sg_fl, sg_FL e.1 e.2.1 e.2.2.1 e.2.2.2 := List.forall_mem_cons.mpr ⟨sg_f0, List.forall_mem_cons.mpr ⟨sg_f1, List.forall_mem_cons.mpr ⟨sg_f2, List.forall_mem_cons.mpr ⟨sg_f3, List.forall_mem_cons.mpr ⟨sg_f4, List.forall_mem_cons.mpr ⟨sg_f5, List.forall_mem_cons.mpr ⟨sg_f6, List.forall_mem_cons.mpr ⟨sg_f7, List.forall_mem_cons.mpr ⟨sg_f8, List.forall_mem_cons.mpr ⟨sg_f9, List.forall_mem_cons.mpr ⟨sg_f10, List.forall_mem_cons.mpr ⟨sg_f11, List.forall_mem_cons.mpr ⟨sg_f12, List.forall_mem_cons.mpr ⟨sg_f13, List.forall_mem_cons.mpr ⟨sg_f14, List.forall_mem_cons.mpr ⟨sg_f15, List.forall_mem_cons.mpr ⟨sg_f16, List.forall_mem_cons.mpr ⟨sg_f17, List.forall_mem_cons.mpr ⟨sg_f18, List.forall_mem_cons.mpr ⟨sg_f19, List.forall_mem_cons.mpr ⟨sg_f20, List.forall_mem_cons.mpr ⟨sg_f21, List.forall_mem_cons.mpr ⟨sg_f22, List.forall_mem_cons.mpr ⟨sg_f23, List.forall_mem_cons.mpr ⟨sg_f24, List.forall_mem_cons.mpr ⟨sg_f25, List.forall_mem_cons.mpr ⟨sg_f26, List.forall_mem_cons.mpr ⟨sg_f27, List.forall_mem_cons.mpr ⟨sg_f28, List.forall_mem_cons.mpr ⟨sg_f29, List.forall_mem_cons.mpr ⟨sg_f30, List.forall_mem_cons.mpr ⟨sg_f31, List.forall_mem_cons.mpr ⟨sg_f32, List.forall_mem_cons.mpr ⟨sg_f33, List.forall_mem_cons.mpr ⟨sg_f34, List.forall_mem_cons.mpr ⟨sg_f35, List.forall_mem_cons.mpr ⟨sg_f36, List.forall_mem_cons.mpr ⟨sg_f37, List.forall_mem_cons.mpr ⟨sg_f38, List.forall_mem_cons.mpr ⟨sg_f39, List.forall_mem_cons.mpr ⟨sg_f40, List.forall_mem_cons.mpr ⟨sg_f41, List.forall_mem_cons.mpr ⟨sg_f42, List.forall_mem_cons.mpr ⟨sg_f43, List.forall_mem_cons.mpr ⟨sg_f44, List.forall_mem_cons.mpr ⟨sg_f45, List.forall_mem_cons.mpr ⟨sg_f46, List.forall_mem_cons.mpr ⟨sg_f47, List.forall_mem_cons.mpr ⟨sg_f48, List.forall_mem_cons.mpr ⟨sg_f49, List.forall_mem_cons.mpr ⟨sg_f50, List.forall_mem_cons.mpr ⟨sg_f51, List.forall_mem_cons.mpr ⟨sg_f52, List.forall_mem_cons.mpr ⟨sg_f53, List.forall_mem_cons.mpr ⟨sg_f54, List.forall_mem_cons.mpr ⟨sg_f55, List.forall_mem_cons.mpr ⟨sg_f56, List.forall_mem_cons.mpr ⟨sg_f57, List.forall_mem_cons.mpr ⟨sg_f58, List.forall_mem_cons.mpr ⟨sg_f59, List.forall_mem_cons.mpr ⟨sg_f60, List.forall_mem_cons.mpr ⟨sg_f61, List.forall_mem_cons.mpr ⟨sg_f62, List.forall_mem_cons.mpr ⟨sg_f63, List.forall_mem_cons.mpr ⟨sg_f64, List.forall_mem_cons.mpr ⟨sg_f65, List.forall_mem_cons.mpr ⟨sg_f66, List.forall_mem_cons.mpr ⟨sg_f67, List.forall_mem_cons.mpr ⟨sg_f68, List.forall_mem_cons.mpr ⟨sg_f69, List.forall_mem_cons.mpr ⟨sg_f70, List.forall_mem_cons.mpr ⟨sg_f71, List.forall_mem_cons.mpr ⟨sg_f72, List.forall_mem_cons.mpr ⟨sg_f73, List.forall_mem_cons.mpr ⟨sg_f74, List.forall_mem_cons.mpr ⟨sg_f75, List.forall_mem_cons.mpr ⟨sg_f76, List.forall_mem_cons.mpr ⟨sg_f77, List.forall_mem_cons.mpr ⟨sg_f78, List.forall_mem_cons.mpr ⟨sg_f79, List.forall_mem_cons.mpr ⟨sg_f80, List.forall_mem_cons.mpr ⟨sg_f81, List.forall_mem_cons.mpr ⟨sg_f82, List.forall_mem_cons.mpr ⟨sg_f83, List.forall_mem_cons.mpr ⟨sg_f84, List.forall_mem_cons.mpr ⟨sg_f85, List.forall_mem_cons.mpr ⟨sg_f86, List.forall_mem_cons.mpr ⟨sg_f87, List.forall_mem_cons.mpr ⟨sg_f88, List.forall_mem_cons.mpr ⟨sg_f89, List.forall_mem_cons.mpr ⟨sg_f90, List.forall_mem_cons.mpr ⟨sg_f91, List.forall_mem_cons.mpr ⟨sg_f92, List.forall_mem_cons.mpr ⟨sg_f93, List.forall_mem_cons.mpr ⟨sg_f94, List.forall_mem_cons.mpr ⟨sg_f95, List.forall_mem_cons.mpr ⟨sg_f96, List.forall_mem_cons.mpr ⟨sg_f97, List.forall_mem_cons.mpr ⟨sg_f98, List.forall_mem_cons.mpr ⟨sg_f99, List.forall_mem_cons.mpr ⟨sg_f100, List.forall_mem_cons.mpr ⟨sg_f101, List.forall_mem_cons.mpr ⟨sg_f102, List.forall_mem_cons.mpr ⟨sg_f103, List.forall_mem_cons.mpr ⟨sg_f104, List.forall_mem_cons.mpr ⟨sg_f105, List.forall_mem_cons.mpr ⟨sg_f106, List.forall_mem_cons.mpr ⟨sg_f107, List.forall_mem_cons.mpr ⟨sg_f108, List.forall_mem_cons.mpr ⟨sg_f109, List.forall_mem_cons.mpr ⟨sg_f110, List.forall_mem_cons.mpr ⟨sg_f111, List.forall_mem_cons.mpr ⟨sg_f112, List.forall_mem_cons.mpr ⟨sg_f113, List.forall_mem_cons.mpr ⟨sg_f114, List.forall_mem_cons.mpr ⟨sg_f115, List.forall_mem_cons.mpr ⟨sg_f116, List.forall_mem_cons.mpr ⟨sg_f117, List.forall_mem_cons.mpr ⟨sg_f118, List.forall_mem_cons.mpr ⟨sg_f119, List.forall_mem_cons.mpr ⟨sg_f120, List.forall_mem_cons.mpr ⟨sg_f121, List.forall_mem_cons.mpr ⟨sg_f122, List.forall_mem_cons.mpr ⟨sg_f123, List.forall_mem_cons.mpr ⟨sg_f124, List.forall_mem_cons.mpr ⟨sg_f125, List.forall_mem_cons.mpr ⟨sg_f126, List.forall_mem_cons.mpr ⟨sg_f127, List.forall_mem_cons.mpr ⟨sg_f128, List.forall_mem_cons.mpr ⟨sg_f129, List.forall_mem_cons.mpr ⟨sg_f130, List.forall_mem_cons.mpr ⟨sg_f131, List.forall_mem_cons.mpr ⟨sg_f132, List.forall_mem_cons.mpr ⟨sg_f133, List.forall_mem_cons.mpr ⟨sg_f134, List.forall_mem_cons.mpr ⟨sg_f135, List.forall_mem_cons.mpr ⟨sg_f136, List.forall_mem_cons.mpr ⟨sg_f137, List.forall_mem_cons.mpr ⟨sg_f138, List.forall_mem_cons.mpr ⟨sg_f139, List.forall_mem_cons.mpr ⟨sg_f140, List.forall_mem_cons.mpr ⟨sg_f141, List.forall_mem_cons.mpr ⟨sg_f142, List.forall_mem_cons.mpr ⟨sg_f143, List.forall_mem_cons.mpr ⟨sg_f144, List.forall_mem_cons.mpr ⟨sg_f145, List.forall_mem_cons.mpr ⟨sg_f146, List.forall_mem_cons.mpr ⟨sg_f147, List.forall_mem_cons.mpr ⟨sg_f148, List.forall_mem_cons.mpr ⟨sg_f149, List.forall_mem_cons.mpr ⟨sg_f150, List.forall_mem_cons.mpr ⟨sg_f151, List.forall_mem_cons.mpr ⟨sg_f152, List.forall_mem_cons.mpr ⟨sg_f153, List.forall_mem_cons.mpr ⟨sg_f154, List.forall_mem_cons.mpr ⟨sg_f155, List.forall_mem_cons.mpr ⟨sg_f156, List.forall_mem_cons.mpr ⟨sg_f157, List.forall_mem_cons.mpr ⟨sg_f158, List.forall_mem_cons.mpr ⟨sg_f159, List.forall_mem_cons.mpr ⟨sg_f160, List.forall_mem_cons.mpr ⟨sg_f161, List.forall_mem_cons.mpr ⟨sg_f162, List.forall_mem_cons.mpr ⟨sg_f163, List.forall_mem_cons.mpr ⟨sg_f164, List.forall_mem_cons.mpr ⟨sg_f165, List.forall_mem_cons.mpr ⟨sg_f166, List.forall_mem_cons.mpr ⟨sg_f167, List.forall_mem_cons.mpr ⟨sg_f168, List.forall_mem_cons.mpr ⟨sg_f169, List.forall_mem_cons.mpr ⟨sg_f170, List.forall_mem_cons.mpr ⟨sg_f171, List.forall_mem_cons.mpr ⟨sg_f172, List.forall_mem_cons.mpr ⟨sg_f173, List.forall_mem_cons.mpr ⟨sg_f174, List.forall_mem_cons.mpr ⟨sg_f175, List.forall_mem_nil _⟩⟩⟩⟩⟩⟩⟩⟩⟩⟩⟩⟩⟩⟩⟩⟩⟩⟩⟩⟩⟩⟩⟩⟩⟩⟩⟩⟩⟩⟩⟩⟩⟩⟩⟩⟩⟩⟩⟩⟩⟩⟩⟩⟩⟩⟩⟩⟩⟩⟩⟩⟩⟩⟩⟩⟩⟩⟩⟩⟩⟩⟩⟩⟩⟩⟩⟩⟩⟩⟩⟩⟩⟩⟩⟩⟩⟩⟩⟩⟩⟩⟩⟩⟩⟩⟩⟩⟩⟩⟩⟩⟩⟩⟩⟩⟩⟩⟩⟩⟩⟩⟩⟩⟩⟩⟩⟩⟩⟩⟩⟩⟩⟩⟩⟩⟩⟩⟩⟩⟩⟩⟩⟩⟩⟩⟩⟩⟩⟩⟩⟩⟩⟩⟩⟩⟩⟩⟩⟩⟩⟩⟩⟩⟩⟩⟩⟩⟩⟩⟩⟩⟩⟩⟩⟩⟩⟩⟩⟩⟩⟩⟩⟩⟩⟩⟩⟩⟩⟩⟩⟩⟩⟩⟩⟩⟩
theorem sg_p0 : sg_FP 0 3 := ⟨RX0, TX0, 4, tyX0, rfl, tyX0_ok, nmX0, rfl, by decide +kernel, rfl⟩
theorem sg_p1 : sg_FP 1 12 := ⟨RX1, TX1, 17, tyX1, rfl, tyX1_ok, nmX1, rfl, by decide +kernel, rfl⟩
theorem sg_p2 : sg_FP 1 13 := ⟨RX1, TX1, 17, tyX1, rfl, tyX1_ok, nmX1, rfl, by decide +kernel, rfl⟩
theorem sg_p3 : sg_FP 1 14 := ⟨RX1, TX1, 17, tyX1, rfl, tyX1_ok, nmX1, rfl, by decide +kernel, rfl⟩
theorem sg_p4 : sg_FP 1 15 := ⟨RX1, TX1, 17, tyX1, rfl, tyX1_ok, nmX1, rfl, by decide +kernel, rfl⟩
theorem sg_p5 : sg_FP 1 16 := ⟨RX1, TX1, 17, tyX1, rfl, tyX1_ok, nmX1, rfl, by decide +kernel, rfl⟩
theorem sg_p6 : sg_FP 2 0 := ⟨RX2, TX2, 4, tyX2, rfl, tyX2_ok, nmX2, rfl, by decide +kernel, rfl⟩
theorem sg_p7 : sg_FP 3 1 := ⟨RX3, TX3, 6, tyX3, rfl, tyX3_ok, nmX3, rfl, by decide +kernel, rfl⟩
theorem sg_p8 : sg_FP 5 1 := ⟨RX5, TX5, 5, tyX5, rfl, tyX5_ok, nmX5, rfl, by decide +kernel, rfl⟩
theorem sg_p9 : sg_FP 5 2 := ⟨RX5, TX5, 5, tyX5, rfl, tyX5_ok, nmX5, rfl, by decide +kernel, rfl⟩
theorem sg_p10 : sg_FP 5 3 := ⟨RX5, TX5, 5, tyX5, rfl, tyX5_ok, nmX5, rfl, by decide +kernel, rfl⟩
theorem sg_p11 : sg_FP 5 4 := ⟨RX5, TX5, 5, tyX5, rfl, tyX5_ok, nmX5, rfl, by decide +kernel, rfl⟩
theorem sg_p12 : sg_FP 6 3 := ⟨RX6, TX6, 4, tyX6, rfl, tyX6_ok, nmX6, rfl, by decide +kernel, rfl⟩
theorem sg_p13 : sg_FP 7 3 := ⟨RX7, TX7, 4, tyX7, rfl, tyX7_ok, nmX7, rfl, by decide +kernel, rfl⟩
theorem sg_p14 : sg_FP 8 0 := ⟨RX8, TX8, 9, tyX8, rfl, tyX8_ok, nmX8, rfl, by decide +kernel, rfl⟩
theorem sg_p15 : sg_FP 8 4 := ⟨RX8, TX8, 9, tyX8, rfl, tyX8_ok, nmX8, rfl, by decide +kernel, rfl⟩
theorem sg_p16 : sg_FP 11 4 := ⟨RX11, TX11, 37, tyX11, rfl, tyX11_ok, nmX11, rfl, by decide +kernel, rfl⟩
theorem sg_p17 : sg_FP 11 7 := ⟨RX11, TX11, 37, tyX11, rfl, tyX11_ok, nmX11, rfl, by decide +kernel, rfl⟩
theorem sg_p18 : sg_FP 11 9 := ⟨RX11, TX11, 37, tyX11, rfl, tyX11_ok, nmX11, rfl, by decide +kernel, rfl⟩
theorem sg_p19 : sg_FP 11 11 := ⟨RX11, TX11, 37, tyX11, rfl, tyX11_ok, nmX11, rfl, by decide +kernel, rfl⟩
theorem sg_p20 : sg_FP 11 13 := ⟨RX11, TX11, 37, tyX11, rfl, tyX11_ok, nmX11, rfl, by decide +kernel, rfl⟩
theorem sg_p21 : sg_FP 11 14 := ⟨RX11, TX11, 37, tyX11, rfl, tyX11_ok, nmX11, rfl, by decide +kernel, rfl⟩
theorem sg_p22 : sg_FP 11 15 := ⟨RX11, TX11, 37, tyX11, rfl, tyX11_ok, nmX11, rfl, by decide +kernel, rfl⟩
theorem sg_p23 : sg_FP 11 16 := ⟨RX11, TX11, 37, tyX11, rfl, tyX11_ok, nmX11, rfl, by decide +kernel, rfl⟩
theorem sg_p24 : sg_FP 11 32 := ⟨RX11, TX11, 37, tyX11, rfl, tyX11_ok, nmX11, rfl, by decide +kernel, rfl⟩
theorem sg_p25 : sg_FP 11 35 := ⟨RX11, TX11, 37, tyX11, rfl, tyX11_ok, nmX11, rfl, by decide +kernel, rfl⟩
def sg_fp : List (Nat × Nat) := [(0, 3), (1, 12), (1, 13), (1, 14), (1, 15), (1, 16), (2, 0), (3, 1), (5, 1), (5, 2), (5, 3), (5, 4), (6, 3), (7, 3), (8, 0), (8, 4), (11, 4), (11, 7), (11, 9), (11, 11), (11, 13), (11, 14), (11, 15), (11, 16), (11, 32), (11, 35)]
theorem sg_fp_ok : ∀ e ∈ sg_fp, sg_FP e.1 e.2 := List.forall_mem_cons.mpr ⟨sg_p0, List.forall_mem_cons.mpr ⟨sg_p1, List.forall_mem_cons.mpr ⟨sg_p2, List.forall_mem_cons.mpr ⟨sg_p3, List.forall_mem_cons.mpr ⟨sg_p4, List.forall_mem_cons.mpr ⟨sg_p5, List.forall_mem_cons.mpr ⟨sg_p6, List.forall_mem_cons.mpr ⟨sg_p7, List.forall_mem_cons.mpr ⟨sg_p8, List.forall_mem_cons.mpr ⟨sg_p9, List.forall_mem_cons.mpr ⟨sg_p10, List.forall_mem_cons.mpr ⟨sg_p11, List.forall_mem_cons.mpr ⟨sg_p12, List.forall_mem_cons.mpr ⟨sg_p13, List.forall_mem_cons.mpr ⟨sg_p14, List.forall_mem_cons.mpr ⟨sg_p15, List.forall_mem_cons.mpr ⟨sg_p16, List.forall_mem_cons.mpr ⟨sg_p17, List.forall_mem_cons.mpr ⟨sg_p18, List.forall_mem_cons.mpr ⟨sg_p19, List.forall_mem_cons.mpr ⟨sg_p20, List.forall_mem_cons.mpr ⟨sg_p21, List.forall_mem_cons.mpr ⟨sg_p22, List.forall_mem_cons.mpr ⟨sg_p23, List.forall_mem_cons.mpr ⟨sg_p24, List.forall_mem_cons.mpr ⟨sg_p25, List.forall_mem_nil _⟩⟩⟩⟩⟩⟩⟩⟩⟩⟩⟩⟩⟩⟩⟩⟩⟩⟩⟩⟩⟩⟩⟩⟩⟩⟩
theorem sg_c0 : Cond.constant (sg_cn 26) 265 (Int32.ofInt (1431655765)) ∈ sg_GT := sg_inGT (List.mem_of_getElem? (i := 428) (by decide +kernel)) rfl
theorem sg_c1 : Cond.constant (sg_cn 26) 266 (Int32.ofInt (858993459)) ∈ sg_GT := sg_inGT (List.mem_of_getElem? (i := 429) (by decide +kernel)) rfl
theorem sg_c2 : Cond.constant (sg_cn 26) 267 (Int32.ofInt (252645135)) ∈ sg_GT := sg_inGT (List.mem_of_getElem? (i := 430) (by decide +kernel)) rfl
theorem sg_c3 : Cond.constant (sg_cn 0) 73 (Int32.ofInt (1103515245)) ∈ sg_GT := sg_inGT (List.mem_of_getElem? (i := 866) (by decide +kernel)) rfl
theorem sg_c4 : Cond.constant (sg_cn 10) 249 (Int32.ofInt (-2147483648)) ∈ sg_GT := sg_inGT (List.mem_of_getElem? (i := 903) (by decide +kernel)) rfl
theorem sg_c5 : Cond.constant (sg_cn 11) 125 (Int32.ofInt (-2147483648)) ∈ sg_GT := sg_inGT (List.mem_of_getElem? (i := 1117) (by decide +kernel)) rfl
theorem sg_c6 : Cond.constant (sg_cn 11) 308 (Int32.ofInt (1103515245)) ∈ sg_GT := sg_inGT (List.mem_of_getElem? (i := 1424) (by decide +kernel)) rfl
def sg_ct : List (Nat × Nat × Int) := [(26, 265, 1431655765), (26, 266, 858993459), (26, 267, 252645135), (0, 73, 1103515245), (10, 249, -2147483648), (11, 125, -2147483648), (11, 308, 1103515245)]
theorem sg_ct_ok : ∀ e ∈ sg_ct, Cond.constant (sg_cn e.1) e.2.1 (Int32.ofInt e.2.2) ∈ sg_GT := List.forall_mem_cons.mpr ⟨sg_c0, List.forall_mem_cons.mpr ⟨sg_c1, List.forall_mem_cons.mpr ⟨sg_c2, List.forall_mem_cons.mpr ⟨sg_c3, List.forall_mem_cons.mpr ⟨sg_c4, List.forall_mem_cons.mpr ⟨sg_c5, List.forall_mem_cons.mpr ⟨sg_c6, List.forall_mem_nil _⟩⟩⟩⟩⟩⟩⟩
theorem sg_j0 : Cond.constantLong (sg_cn 10) 221 (Int64.ofInt (-9223372036854775806)) ∈ sg_GT := sg_inGT (List.mem_of_getElem? (i := 841) (by decide +kernel)) rfl
theorem sg_j1 : Cond.constantLong (sg_cn 10) 278 (Int64.ofInt (17)) ∈ sg_GT := sg_inGT (List.mem_of_getElem? (i := 929) (by decide +kernel)) rfl
theorem sg_j2 : Cond.constantLong (sg_cn 10) 280 (Int64.ofInt (31)) ∈ sg_GT := sg_inGT (List.mem_of_getElem? (i := 930) (by decide +kernel)) rfl
theorem sg_j3 : Cond.constantLong (sg_cn 11) 105 (Int64.ofInt (3)) ∈ sg_GT := sg_inGT (List.mem_of_getElem? (i := 1089) (by decide +kernel)) rfl
theorem sg_j4 : Cond.constantLong (sg_cn 11) 111 (Int64.ofInt (2)) ∈ sg_GT := sg_inGT (List.mem_of_getElem? (i := 1093) (by decide +kernel)) rfl
theorem sg_j5 : Cond.constantLong (sg_cn 11) 129 (Int64.ofInt (255)) ∈ sg_GT := sg_inGT (List.mem_of_getElem? (i := 1129) (by decide +kernel)) rfl
theorem sg_j6 : Cond.constantLong (sg_cn 11) 156 (Int64.ofInt (23)) ∈ sg_GT := sg_inGT (List.mem_of_getElem? (i := 1186) (by decide +kernel)) rfl
theorem sg_j7 : Cond.constantLong (sg_cn 11) 170 (Int64.ofInt (9)) ∈ sg_GT := sg_inGT (List.mem_of_getElem? (i := 1187) (by decide +kernel)) rfl
theorem sg_j8 : Cond.constantLong (sg_cn 11) 262 (Int64.ofInt (-1)) ∈ sg_GT := sg_inGT (List.mem_of_getElem? (i := 1337) (by decide +kernel)) rfl
theorem sg_j9 : Cond.constantLong (sg_cn 11) 267 (Int64.ofInt (7)) ∈ sg_GT := sg_inGT (List.mem_of_getElem? (i := 1350) (by decide +kernel)) rfl
theorem sg_j10 : Cond.constantLong (sg_cn 11) 298 (Int64.ofInt (16)) ∈ sg_GT := sg_inGT (List.mem_of_getElem? (i := 1399) (by decide +kernel)) rfl
theorem sg_j11 : Cond.constantLong (sg_cn 11) 96 (Int64.ofInt (-9223372036854775808)) ∈ sg_GT := sg_inGT (List.mem_of_getElem? (i := 1410) (by decide +kernel)) rfl
theorem sg_j12 : Cond.constantLong (sg_cn 11) 318 (Int64.ofInt (8)) ∈ sg_GT := sg_inGT (List.mem_of_getElem? (i := 1415) (by decide +kernel)) rfl
theorem sg_j13 : Cond.constantLong (sg_cn 11) 332 (Int64.ofInt (17)) ∈ sg_GT := sg_inGT (List.mem_of_getElem? (i := 1440) (by decide +kernel)) rfl
theorem sg_j14 : Cond.constantLong (sg_cn 11) 323 (Int64.ofInt (31)) ∈ sg_GT := sg_inGT (List.mem_of_getElem? (i := 1441) (by decide +kernel)) rfl
def sg_lt : List (Nat × Nat × Int) := [(10, 221, -9223372036854775806), (10, 278, 17), (10, 280, 31), (11, 105, 3), (11, 111, 2), (11, 129, 255), (11, 156, 23), (11, 170, 9), (11, 262, -1), (11, 267, 7), (11, 298, 16), (11, 96, -9223372036854775808), (11, 318, 8), (11, 332, 17), (11, 323, 31)]
theorem sg_lt_ok : ∀ e ∈ sg_lt, Cond.constantLong (sg_cn e.1) e.2.1 (Int64.ofInt e.2.2) ∈ sg_GT := List.forall_mem_cons.mpr ⟨sg_j0, List.forall_mem_cons.mpr ⟨sg_j1, List.forall_mem_cons.mpr ⟨sg_j2, List.forall_mem_cons.mpr ⟨sg_j3, List.forall_mem_cons.mpr ⟨sg_j4, List.forall_mem_cons.mpr ⟨sg_j5, List.forall_mem_cons.mpr ⟨sg_j6, List.forall_mem_cons.mpr ⟨sg_j7, List.forall_mem_cons.mpr ⟨sg_j8, List.forall_mem_cons.mpr ⟨sg_j9, List.forall_mem_cons.mpr ⟨sg_j10, List.forall_mem_cons.mpr ⟨sg_j11, List.forall_mem_cons.mpr ⟨sg_j12, List.forall_mem_cons.mpr ⟨sg_j13, List.forall_mem_cons.mpr ⟨sg_j14, List.forall_mem_nil _⟩⟩⟩⟩⟩⟩⟩⟩⟩⟩⟩⟩⟩⟩⟩
def sg_len : List Nat := [10, 4, 1, 3, 2, 9]
def sg_byt : List (List Int32) := [[48, 49, 50, 51, 52, 53, 54, 55, 56, 57], [48, 49, 50, 51], [59], [112, 99, 103], [101, 119], [49, 50, 51, 52, 53, 54, 55, 56, 57]]
def sg_tx : List String := ["0123456789", "0123", ";", "pcg", "ew", "123456789"]
def sg_si : List Nat := [50, 52, 54, 56, 58, 60]
/-- the links to private static methods of the nest -/
def sg_nl : List (Nat × Nat × MethodName) := [(7, 40, yX10_isBelow), (9, 28, yX10_hasBit), (9, 35, yX10_isBelow), (1, 101, yX10_isBelow), (1, 114, yX10_hasBit), (2, 21, yX10_isBelow), (6, 29, yX10_isBelow), (4, 90, yX10_isBelow), (3, 94, yX10_hasBit), (0, 51, yX10_hasBit)]
end
section
/-! THE ABSTRACT MACHINE. Values are pairs (tag, integer); memory is a function of a cell's number and a place; a method's run is told by sg_Wp, a statement over the machine that holds for every caller. -/
abbrev SgM : Type := Int → Int → Int
abbrev SgL : Type := List (Nat × Nat × Int)
abbrev SgS : Type := List (Nat × Int)
abbrev SgY : Type := Nat × MethodName × ByteArray × Nat × Option FieldType
abbrev SgA : Type := (Int → Nat) × (Nat → Nat) × (Nat → Nat) × Nat
abbrev SgC : Type := ClassId × ClassId × ClassId × ClassId
/-- tags: 0 int, 1 long, 2 a cell, 3 a text constant, 4 its bytes, 5 the table LOUD -/
def sg_v (a : SgA) (v : Nat × Int) : Value := match v.1 with
  | 0 => .int (Int32.ofInt v.2)
  | 1 => .long (Int64.ofInt v.2)
  | 2 => .ref (a.1 v.2)
  | 3 => .ref (a.2.1 v.2.toNat)
  | 4 => .ref (a.2.2.1 v.2.toNat)
  | _ => .ref a.2.2.2
def sg_32 (x : Int) : Prop := (Int32.ofInt x).toInt = x
def sg_64 (x : Int) : Prop := (Int64.ofInt x).toInt = x
def sg_cv (v : Nat × Int) : Prop := match v.1 with
  | 0 => sg_32 v.2
  | 1 => sg_64 v.2
  | _ => True
def sg_fv (a : SgA) (ci k : Nat) (c g : Int) : Value := if sg_ft ci k = 0 then .int (Int32.ofInt g) else .ref (a.1 (sg_rr c k))
def sg_e (cy : SgC) (a : SgA) (G : SgM) (c : Int) : va_E := match (sg_sh c).1 with
  | 0 => .inr ((sg_sh c).2.toNat, (List.range (sg_nf (sg_sh c).2.toNat)).map (fun k => sg_fv a (sg_sh c).2.toNat k c (G c (k : Int))))
  | 1 => .inl (cy.1, (sg_sh c).2.toNat, .inl (fun i => Int32.ofInt (G c (i : Int))))
  | 2 => .inl (cy.2.1, (sg_sh c).2.toNat, .inl (fun i => Int32.ofInt (G c (i : Int))))
  | 3 => .inl (cy.2.2.1, (sg_sh c).2.toNat, .inr (.inl (fun i => Int64.ofInt (G c (i : Int)))))
  | _ => .inl (cy.2.2.2, (sg_sh c).2.toNat, .inr (.inr (.inr (.inr (fun i => some (a.1 (sg_qb c + (i : Int)))))))) 
def sg_W (cy : SgC) (a : SgA) (G : SgM) (lo N : Nat) : va_W := (List.range (N - lo)).map (fun j => (a.1 ((lo + j : Nat) : Int), sg_e cy a G ((lo + j : Nat) : Int)))
def sg_tys (cy : SgC) : List (ClassId × FieldType) := [(cy.1, .int), (cy.2.1, .boolean), (cy.2.2.1, .long), (cy.2.2.2, .array .int)]
def sg_In (lo N : Nat) (c : Int) : Prop := (lo : Int) ≤ c ∧ c < (N : Int)
/-- a cell of the world, of that kind -/
def sg_Ce (lo N : Nat) (c : Int) (k : Nat) (n : Int) : Prop := sg_In lo N c ∧ sg_sh c = (k, n)
def sg_up (G : SgM) (c i v : Int) : SgM := fun c' i' => if c' = c ∧ i' = i then v else G c' i'
def sg_can (G : SgM) : Prop := ∀ c i : Int, if (sg_sh c).1 = 3 then sg_64 (G c i) else sg_32 (G c i)
def sg_A (lo N : Nat) (a : SgA) : Nat → Prop := fun q => ∃ c : Int, sg_In lo N c ∧ a.1 c = q
theorem sg_32_of (x : Int32) : sg_32 x.toInt := by unfold sg_32; rw [Int32.ofInt_toInt]
theorem sg_64_of (x : Int64) : sg_64 x.toInt := by unfold sg_64; rw [Int64.ofInt_toInt]
theorem sg_W_at {cy : SgC} {a : SgA} {G : SgM} {lo N : Nat} {c : Int} (h : sg_In lo N c) : (sg_W cy a G lo N)[c.toNat - lo]? = some (a.1 c, sg_e cy a G c) := by
  obtain ⟨h1, h2⟩ := h
  have e : ((lo + (c.toNat - lo) : Nat) : Int) = c := by omega
  unfold sg_W
  rw [List.getElem?_map, List.getElem?_range (by omega)]
  simp only [Option.map_some, e]
theorem sg_W_ge {cy : SgC} {a : SgA} {G : SgM} {lo N k : Nat} {q : Nat × va_E} (h : (sg_W cy a G lo N)[k]? = some q) : ∃ c : Int, sg_In lo N c ∧ c.toNat - lo = k ∧ q = (a.1 c, sg_e cy a G c) := by
  unfold sg_W at h
  rw [List.getElem?_map] at h
  by_cases hk : k < N - lo
  · rw [List.getElem?_range hk] at h
    simp only [Option.map_some, Option.some.injEq] at h
    exact ⟨((lo + k : Nat) : Int), ⟨by omega, by omega⟩, by omega, h.symm⟩
  · rw [List.getElem?_eq_none (by simp; omega)] at h
    cases h
theorem sg_W_set {cy : SgC} {a : SgA} {G G' : SgM} {lo N : Nat} {c : Int} (h : sg_In lo N c) (hoff : ∀ c' : Int, c' ≠ c → sg_e cy a G' c' = sg_e cy a G c') : (sg_W cy a G lo N).set (c.toNat - lo) (a.1 c, sg_e cy a G' c) = sg_W cy a G' lo N := by
  obtain ⟨h1, h2⟩ := h
  apply List.ext_getElem?
  intro k
  rw [List.getElem?_set]
  by_cases hk : c.toNat - lo = k
  · have hin : sg_In lo N c := ⟨h1, h2⟩
    rw [if_pos hk, if_pos (by unfold sg_W; simp; omega), ← hk, sg_W_at hin]
  · rw [if_neg hk]
    unfold sg_W
    rw [List.getElem?_map, List.getElem?_map]
    by_cases hl : k < N - lo
    · rw [List.getElem?_range hl]
      simp only [Option.map_some]
      rw [hoff _ (by omega)]
    · rw [List.getElem?_eq_none (by simp; omega), Option.map_none, Option.map_none]
theorem sg_W_D {cy : SgC} {a : SgA} {G G' : SgM} {lo N : Nat} {A : Nat → Prop} (h : va_D A (sg_W cy a G lo N)) : va_D A (sg_W cy a G' lo N) := by
  have key : ∀ (k : Nat) (q : Nat × va_E), (sg_W cy a G' lo N)[k]? = some q → ∃ q' : Nat × va_E, (sg_W cy a G lo N)[k]? = some q' ∧ q'.1 = q.1 := by
    intro k q hq
    obtain ⟨c, hc, hk, rfl⟩ := sg_W_ge hq
    exact ⟨(a.1 c, sg_e cy a G c), by rw [← hk]; exact sg_W_at hc, rfl⟩
  refine ⟨fun i j x y hi hj hxy => ?_, fun k q hk => ?_⟩
  · obtain ⟨x', h1, e1⟩ := key i x hi
    obtain ⟨y', h2, e2⟩ := key j y hj
    exact h.1 i j x' y' h1 h2 (by rw [e1, e2, hxy])
  · obtain ⟨q', h1, e1⟩ := key k q hk
    rw [← e1]
    exact h.2 k q' h1
theorem sg_up_can {G : SgM} (h : sg_can G) {c i v : Int} (hv : if (sg_sh c).1 = 3 then sg_64 v else sg_32 v) : sg_can (sg_up G c i v) := by
  intro c' i'
  unfold sg_up
  by_cases e : c' = c ∧ i' = i
  · rw [if_pos e, e.1]; exact hv
  · rw [if_neg e]; exact h c' i'
/-- off the cell that is written, no cell changes -/
theorem sg_e_off {cy : SgC} {a : SgA} {G G' : SgM} {c : Int} (h : ∀ i : Int, G' c i = G c i) : sg_e cy a G' c = sg_e cy a G c := by
  unfold sg_e
  simp only [h]
theorem sg_up_off {G : SgM} {c c' i v : Int} (h : c' ≠ c) (j : Int) : sg_up G c i v c' j = G c' j := by
  unfold sg_up
  rw [if_neg (fun q => h q.1)]
theorem sg_up_at {G : SgM} {c i v : Int} : sg_up G c i v c i = v := by unfold sg_up; rw [if_pos ⟨rfl, rfl⟩]
/-- what stands outside our world and stays: the text constants, what String says of itself, the table LOUD -/
def sg_loud (j : Nat) : Int32 := [2, 4, 7].getD j 0
def sg_X (a : SgA) (A : Nat → Prop) (U : State) (H : Heap) : Prop :=
  (∀ i : Nat, i < 6 → vk_R "SneezeGuard$Text" (sg_si.getD i 0) (sg_tx.getD i "") (a.2.1 i) U) ∧ vk_S 6 sg_len sg_byt a.2.1 a.2.2.1 A U H ∧ va_Z "java/lang/String" "COMPACT_STRINGS" "Z" (.int 1) A U H ∧ va_Z "SneezeGuard$Wall" "LOUD" "[I" (.ref a.2.2.2) A U H ∧ va_T .int a.2.2.2 3 (fun j => .int (sg_loud j)) A U H ∧ ∀ q ∈ sg_nl, va_Nw (.methodLinkNest (sg_cn q.1) q.2.1 q.2.2 "SneezeGuard") U
theorem sg_X.kept {a : SgA} {A : Nat → Prop} {U : State} {H H1 : Heap} (h : sg_X a A U H) (hq : ∀ q : Nat, q < H.size → ¬ A q → H1[q]? = H[q]?) : sg_X a A U H1 := ⟨h.1, h.2.1.kept hq, h.2.2.1.kept hq, h.2.2.2.1.kept hq, h.2.2.2.2.1.kept hq, h.2.2.2.2.2⟩
theorem sg_X.warm {a : SgA} {A : Nat → Prop} {s U : State} {H : Heap} (hW : s.WarmedH U.vm) (h : sg_X a A s H) : sg_X a A U H := ⟨fun i hi => (h.1 i hi).warm hW, h.2.1.moved hW.alike, h.2.2.1.moved hW.alike, h.2.2.2.1.moved hW.alike, h.2.2.2.2.1.moved hW.alike, fun q hq => (h.2.2.2.2.2 q hq).warmM hW⟩
theorem sg_X.same {a : SgA} {A : Nat → Prop} {u U : State} {H : Heap} (hv : U.vm = u.vm) (h : sg_X a A u H) : sg_X a A U H := by
  have hA : u.vm.Alike U.vm := by rw [hv]; exact Vm.Alike.refl _
  exact ⟨fun i hi => (h.1 i hi).same hv, h.2.1.moved hA, h.2.2.1.moved hA, h.2.2.2.1.moved hA, h.2.2.2.2.1.moved hA, fun q hq => (h.2.2.2.2.2 q hq).same rfl hv.symm⟩
theorem sg_X.narrow {a : SgA} {A B : Nat → Prop} {U : State} {H : Heap} (h : sg_X a A U H) (hAB : ∀ q, B q → A q) : sg_X a B U H := ⟨h.1, h.2.1.narrow hAB, h.2.2.1.narrow hAB, h.2.2.2.1.narrow hAB, h.2.2.2.2.1.narrow hAB, h.2.2.2.2.2⟩
/-- a method's answer as a value of the machine -/
def sg_r (ret : Option FieldType) (a : SgA) (v : Int) : Option Value := match ret with
  | none => none
  | some .long => some (.long (Int64.ofInt v))
  | some (.object C) => some (if C = "java/lang/String" then .ref (a.2.1 v.toNat) else .ref (a.1 v))
  | some _ => some (.int (Int32.ofInt v))
/-- how an answer comes onto the stack -/
def sg_push (ret : Option FieldType) (v : Int) (S : SgS) : SgS := match ret with
  | none => S
  | some .long => (1, v) :: S
  | some (.object C) => (if C = "java/lang/String" then (3, v) else (2, v)) :: S
  | some _ => (0, v) :: S
def sg_rc (ret : Option FieldType) (v : Int) : Prop := match ret with
  | none => True
  | some .long => sg_64 v
  | some (.object _) => True
  | some _ => sg_32 v
def sg_Pc (lo N : Nat) (D : va_G) (cy : SgC) (a : SgA) (av : SgS) (G : SgM) : Array Value → State → Prop :=
  va_Pc (av.map (sg_v a)) (fun U => va_P D vwCl (sg_W cy a G lo N) U.heap ∧ va_D (sg_A lo N a) (sg_W cy a G lo N) ∧ sg_can G ∧ va_K D vwCl (sg_tys cy) U ∧ sg_X a (sg_A lo N a) U U.heap)
def sg_Qc (lo N : Nat) (D : va_G) (cy : SgC) (a : SgA) (ret : Option FieldType) (Q : Int → SgM → Prop) : Array Value → State → Outcome → State → Prop := fun _ st oc t =>
  (∃ (v : Int) (G' : SgM), oc = .returned (sg_r ret a v) ∧ sg_rc ret v ∧ Q v G' ∧ va_P D vwCl (sg_W cy a G' lo N) t.heap ∧ sg_can G') ∧ va_F (sg_A lo N a) st t
/-- what a frame of method y stands on, heap and locals apart -/
def sg_Cx (lo N d : Nat) (y : SgY) (D : va_G) (cy : SgC) (a : SgA) (p : Program) (R : Room) (s : State) (m : MethodId) (args : Array Value) (meth : Method) (c : Code) : Prop :=
  p.tables.exec = Jvm.exec ∧ c.code = y.2.2.1 ∧ c.maxLocals = y.2.2.2.1 ∧ meth.sig.returnType = y.2.2.2.2 ∧ meth.locks = false ∧ s.vm.findClass (sg_cn y.1) = some m.cls ∧ (∀ w ∈ sg_GT, w.before args s = true) ∧ d ≤ R.frames ∧ 34 * d ≤ R.locals ∧
  va_K D vwCl (sg_tys cy) s ∧ sg_X a (sg_A lo N a) s s.heap
/-- the heap and the locals -/
def sg_Hx (lo N : Nat) (y : SgY) (D : va_G) (cy : SgC) (a : SgA) (s : State) (G : SgM) (H : Heap) (locs : List Loc) (ls : Array Slot) (L : SgL) (S : SgS) : Prop :=
  va_P D vwCl (sg_W cy a G lo N) H ∧ va_D (sg_A lo N a) (sg_W cy a G lo N) ∧ va_S (sg_A lo N a) s.heap H locs ∧ sg_can G ∧ lv_has ls y.2.2.2.1 (L.map (fun q => (q.1, sg_v a q.2))) ∧ (∀ q ∈ L, sg_cv q.2) ∧ (∀ v ∈ S, sg_cv v)
def sg_Wp (lo N d : Nat) (y : SgY) (pc : Nat) (L : SgL) (S : SgS) (G : SgM) (Q : Int → SgM → Prop) : Prop :=
  ∀ (p : Program) (l : Launch) (e : Env) (R : Room) (s : State) (m : MethodId) (args : Array Value) (below : List Frame) (meth : Method) (c : Code) (D : va_G) (cy : SgC) (a : SgA) (H : Heap) (locs : List Loc) (ls : Array Slot),
    sg_Cx lo N d y D cy a p R s m args meth c → sg_Hx lo N y D cy a s G H locs ls L S →
    W p l e R s m args below meth c H locs 0 0 (MQ below (sg_Qc lo N D cy a y.2.2.2.2 Q) args s 0 0 (sg_A lo N a)) (F0 m pc ls (S.map (sg_v a)))
theorem sg_Wp.mono {lo N d : Nat} {y : SgY} {pc : Nat} {L : SgL} {S : SgS} {G : SgM} {Q Q' : Int → SgM → Prop} (h : sg_Wp lo N d y pc L S G Q) (hq : ∀ v G', Q v G' → Q' v G') : sg_Wp lo N d y pc L S G Q' := by
  intro p l e R s m args below meth c D cy a H locs ls hC hH T hT X
  obtain ⟨t, h1, o, h2, h3, ⟨⟨v, G', g1, g2, g3, g4⟩, hF⟩, h5⟩ := h p l e R s m args below meth c D cy a H locs ls hC hH T hT X
  exact ⟨t, h1, o, h2, h3, ⟨⟨v, G', g1, g2, hq v G' g3, g4⟩, hF⟩, h5⟩
theorem sg_Wp.deep {lo N d d' : Nat} {y : SgY} {pc : Nat} {L : SgL} {S : SgS} {G : SgM} {Q : Int → SgM → Prop} (h : sg_Wp lo N d y pc L S G Q) (hd : d ≤ d') : sg_Wp lo N d' y pc L S G Q := by
  intro p l e R s m args below meth c D cy a H locs ls hC hH
  obtain ⟨c1, c2, c3, c4, c5, c6, c7, c8, c9, c10⟩ := hC
  exact h p l e R s m args below meth c D cy a H locs ls ⟨c1, c2, c3, c4, c5, c6, c7, Nat.le_trans hd c8, Nat.le_trans (Nat.mul_le_mul_left 34 hd) c9, c10⟩ hH
/-- fewer locals are known -/
theorem sg_Wp.keep {lo N d : Nat} {y : SgY} {pc : Nat} {L L' : SgL} {S : SgS} {G : SgM} {Q : Int → SgM → Prop} (h : sg_Wp lo N d y pc L' S G Q) (hl : ∀ q ∈ L', q ∈ L) : sg_Wp lo N d y pc L S G Q := by
  intro p l e R s m args below meth c D cy a H locs ls hC hH
  obtain ⟨h1, h2, h3, h4, h5, h6, h7⟩ := hH
  refine h p l e R s m args below meth c D cy a H locs ls hC ⟨h1, h2, h3, h4, ⟨h5.1, h5.2.1, fun q hq => ?_⟩, fun q hq => h6 q (hl q hq), h7⟩
  obtain ⟨x, hx, rfl⟩ := List.mem_map.mp hq
  exact h5.2.2 _ (List.mem_map.mpr ⟨x, hl x hx, rfl⟩)
end
section
/-! the four links beside our world -/
def sg_gsc : Nat := 38
theorem sg_gsc_ok : Cond.fieldLink (sg_cn 20) sg_gsc "java/lang/String" "COMPACT_STRINGS" "Z" ∈ sg_GT := sg_inGT (List.mem_of_getElem? (i := 277) (by decide +kernel)) rfl
def sg_gfv : Nat := 9
theorem sg_gfv_ok : Cond.fieldLink (sg_cn 20) sg_gfv "java/lang/String" "value" "[B" ∈ sg_GT := sg_inGT (List.mem_of_getElem? (i := 1460) (by decide +kernel)) rfl
def sg_gfc : Nat := 15
theorem sg_gfc_ok : Cond.fieldLink (sg_cn 20) sg_gfc "java/lang/String" "coder" "B" ∈ sg_GT := sg_inGT (List.mem_of_getElem? (i := 1459) (by decide +kernel)) rfl
def sg_gsl : Nat := 52
theorem sg_gsl_ok : Cond.fieldLink (sg_cn 8) sg_gsl "SneezeGuard$Wall" "LOUD" "[I" ∈ sg_GT := sg_inGT (List.mem_of_getElem? (i := 359) (by decide +kernel)) rfl
/-! STRAIGHT INSTRUCTIONS: (op, n, m, j, k); sg_ins: the machine's own; sg_st: what it does to locals, stack and memory, told as a predicate transformer; sg_one: it does so. -/
abbrev SgI : Type := Nat × Int × Int × Nat × Nat
def sg_get : SgL → Nat → Option (Nat × Int)
  | [], _ => none
  | q :: r, j => if q.1 = j then some q.2 else sg_get r j
def sg_set (L : SgL) (j : Nat) (v : Nat × Int) : SgL :=
  (L.filter (fun q => decide (q.1 = j) || (!(decide (q.1 + 1 = j) && decide (q.2.1 = 1)) && !(decide (v.1 = 1) && decide (q.1 = j + 1))))).map (fun q => if q.1 = j then (j, v) else q) ++ (if L.any (fun q => decide (q.1 = j)) then [] else [(j, v)])
def sg_iadd (x y : Int) : Int := (Int32.ofInt x + Int32.ofInt y).toInt
def sg_isub (x y : Int) : Int := (Int32.ofInt x - Int32.ofInt y).toInt
def sg_imul (x y : Int) : Int := (Int32.ofInt x * Int32.ofInt y).toInt
def sg_idiv (x y : Int) : Int := (Int32.ofInt x / Int32.ofInt y).toInt
def sg_irem (x y : Int) : Int := (Int32.ofInt x - Int32.ofInt x / Int32.ofInt y * Int32.ofInt y).toInt
def sg_ineg (x : Int) : Int := (-(Int32.ofInt x)).toInt
def sg_iand (x y : Int) : Int := (Int32.ofInt x &&& Int32.ofInt y).toInt
def sg_ior (x y : Int) : Int := (Int32.ofInt x ||| Int32.ofInt y).toInt
def sg_ixor (x y : Int) : Int := (Int32.ofInt x ^^^ Int32.ofInt y).toInt
def sg_ishl (x y : Int) : Int := (Int32.ofInt x <<< (Int32.ofInt y &&& 31)).toInt
def sg_ishr (x y : Int) : Int := (Int32.ofInt x >>> (Int32.ofInt y &&& 31)).toInt
def sg_iushr (x y : Int) : Int := ((Int32.ofInt x).toUInt32 >>> ((Int32.ofInt y).toUInt32 &&& Int32.toUInt32 31)).toInt32.toInt
def sg_ladd (x y : Int) : Int := (Int64.ofInt x + Int64.ofInt y).toInt
def sg_lsub (x y : Int) : Int := (Int64.ofInt x - Int64.ofInt y).toInt
def sg_lmul (x y : Int) : Int := (Int64.ofInt x * Int64.ofInt y).toInt
def sg_ldiv (x y : Int) : Int := (Int64.ofInt x / Int64.ofInt y).toInt
def sg_lrem (x y : Int) : Int := (Int64.ofInt x - Int64.ofInt x / Int64.ofInt y * Int64.ofInt y).toInt
def sg_land (x y : Int) : Int := (Int64.ofInt x &&& Int64.ofInt y).toInt
def sg_lshl (x y : Int) : Int := (Int64.ofInt x <<< ((Int32.ofInt y).toInt64 &&& 63)).toInt
def sg_lshr (x y : Int) : Int := (Int64.ofInt x >>> ((Int32.ofInt y).toInt64 &&& 63)).toInt
def sg_lcmp (x y : Int) : Int := if y < x then 1 else if x = y then 0 else -1
def sg_i2b (x : Int) : Int := (Int32.ofInt x).toInt8.toInt32.toInt
def sg_i2s (x : Int) : Int := (Int32.ofInt x).toInt16.toInt32.toInt
def sg_i2c (x : Int) : Int := ((Int32.ofInt x).toUInt32 % 65536).toInt32.toInt
abbrev SgK : Type := SgL → SgS → SgM → Prop
def sg_b2 (f : Int → Int → Int) (L : SgL) (S : SgS) (G : SgM) (K : SgK) : Prop := match S with
  | (0, y) :: (0, x) :: r => K L ((0, f x y) :: r) G
  | _ => False
def sg_bd (f : Int → Int → Int) (L : SgL) (S : SgS) (G : SgM) (K : SgK) : Prop := match S with
  | (0, y) :: (0, x) :: r => y ≠ 0 ∧ K L ((0, f x y) :: r) G
  | _ => False
def sg_bl (f : Int → Int → Int) (L : SgL) (S : SgS) (G : SgM) (K : SgK) : Prop := match S with
  | (1, y) :: (1, x) :: r => K L ((1, f x y) :: r) G
  | _ => False
def sg_bld (f : Int → Int → Int) (L : SgL) (S : SgS) (G : SgM) (K : SgK) : Prop := match S with
  | (1, y) :: (1, x) :: r => y ≠ 0 ∧ K L ((1, f x y) :: r) G
  | _ => False
def sg_bs (f : Int → Int → Int) (L : SgL) (S : SgS) (G : SgM) (K : SgK) : Prop := match S with
  | (0, y) :: (1, x) :: r => K L ((1, f x y) :: r) G
  | _ => False
def sg_u1 (f : Int → Int) (L : SgL) (S : SgS) (G : SgM) (K : SgK) : Prop := match S with
  | (0, x) :: r => K L ((0, f x) :: r) G
  | _ => False
def sg_lda (j : Nat) (L : SgL) (S : SgS) (G : SgM) (K : SgK) : Prop := match sg_get L j with
  | some v => 2 ≤ v.1 ∧ K L (v :: S) G
  | none => False
def sg_ldx (t j : Nat) (L : SgL) (S : SgS) (G : SgM) (K : SgK) : Prop := match sg_get L j with
  | some v => v.1 = t ∧ K L (v :: S) G
  | none => False
def sg_sta (j : Nat) (L : SgL) (S : SgS) (G : SgM) (K : SgK) : Prop := match S with
  | v :: r => 2 ≤ v.1 ∧ K (sg_set L j v) r G
  | _ => False
def sg_stx (t j : Nat) (L : SgL) (S : SgS) (G : SgM) (K : SgK) : Prop := match S with
  | v :: r => v.1 = t ∧ K (sg_set L j v) r G
  | _ => False
def sg_inc (j : Nat) (n : Int) (L : SgL) (S : SgS) (G : SgM) (K : SgK) : Prop := match sg_get L j with
  | some v => v.1 = 0 ∧ K (sg_set L j (0, sg_iadd v.2 n)) S G
  | none => False
def sg_lb (s i : Int) : Int := ((sg_byt.getD s.toNat []).getD i.toNat 0).toInt
def sg_ll (s : Int) : Int := (sg_len.getD s.toNat 0 : Nat)

def sg_m15 (lo N : Nat) (n m : Int) (j k : Nat) (L : SgL) (S : SgS) (G : SgM) (K : SgK) : Prop := match S with | (2, c) :: r => sg_Ce lo N c 0 m ∧ K L ((0, G c (k : Int)) :: r) G | _ => False
def sg_m65 (lo N : Nat) (n m : Int) (j k : Nat) (L : SgL) (S : SgS) (G : SgM) (K : SgK) : Prop := match S with | (2, c) :: r => sg_Ce lo N c 0 m ∧ sg_rr c k = n ∧ K L ((2, n) :: r) G | _ => False
def sg_m16 (lo N : Nat) (n m : Int) (j k : Nat) (L : SgL) (S : SgS) (G : SgM) (K : SgK) : Prop := match S with | (0, v) :: (2, c) :: r => sg_Ce lo N c 0 m ∧ K L r (sg_up G c (k : Int) v) | _ => False
def sg_m17 (lo N : Nat) (n m : Int) (j k : Nat) (L : SgL) (S : SgS) (G : SgM) (K : SgK) : Prop := match S with | (0, i) :: (2, c) :: r => sg_Ce lo N c 1 n ∧ (0 ≤ i ∧ i < n) ∧ K L ((0, G c i) :: r) G | _ => False
def sg_m18 (lo N : Nat) (n m : Int) (j k : Nat) (L : SgL) (S : SgS) (G : SgM) (K : SgK) : Prop := match S with | (0, v) :: (0, i) :: (2, c) :: r => sg_Ce lo N c 1 n ∧ (0 ≤ i ∧ i < n) ∧ K L r (sg_up G c i v) | _ => False
def sg_m19 (lo N : Nat) (n m : Int) (j k : Nat) (L : SgL) (S : SgS) (G : SgM) (K : SgK) : Prop := match S with | (0, i) :: (2, c) :: r => sg_Ce lo N c 2 n ∧ (0 ≤ i ∧ i < n) ∧ K L ((0, G c i) :: r) G | _ => False
def sg_m20 (lo N : Nat) (n m : Int) (j k : Nat) (L : SgL) (S : SgS) (G : SgM) (K : SgK) : Prop := match S with | (0, v) :: (0, i) :: (2, c) :: r => sg_Ce lo N c 2 n ∧ (0 ≤ i ∧ i < n) ∧ (v = 0 ∨ v = 1) ∧ K L r (sg_up G c i v) | _ => False
def sg_m21 (lo N : Nat) (n m : Int) (j k : Nat) (L : SgL) (S : SgS) (G : SgM) (K : SgK) : Prop := match S with | (0, i) :: (2, c) :: r => sg_Ce lo N c 3 n ∧ (0 ≤ i ∧ i < n) ∧ K L ((1, G c i) :: r) G | _ => False
def sg_m22 (lo N : Nat) (n m : Int) (j k : Nat) (L : SgL) (S : SgS) (G : SgM) (K : SgK) : Prop := match S with | (1, v) :: (0, i) :: (2, c) :: r => sg_Ce lo N c 3 n ∧ (0 ≤ i ∧ i < n) ∧ K L r (sg_up G c i v) | _ => False
def sg_m23 (lo N : Nat) (n m : Int) (j k : Nat) (L : SgL) (S : SgS) (G : SgM) (K : SgK) : Prop := match S with | (0, i) :: (2, c) :: r => (sg_Ce lo N c 4 n ∧ sg_qb c = m) ∧ (0 ≤ i ∧ i < n) ∧ K L ((2, m + i) :: r) G | _ => False
def sg_m24 (lo N : Nat) (n m : Int) (j k : Nat) (L : SgL) (S : SgS) (G : SgM) (K : SgK) : Prop := match S with | (2, c) :: r => ((sg_Ce lo N c 1 n ∨ sg_Ce lo N c 3 n) ∧ 0 ≤ n ∧ n < 2147483648) ∧ K L ((0, n) :: r) G | _ => False
def sg_m52 (lo N : Nat) (n m : Int) (j k : Nat) (L : SgL) (S : SgS) (G : SgM) (K : SgK) : Prop := match S with | (1, y) :: (1, x) :: r => K L ((0, sg_lcmp x y) :: r) G | _ => False
def sg_m53 (lo N : Nat) (n m : Int) (j k : Nat) (L : SgL) (S : SgS) (G : SgM) (K : SgK) : Prop := match S with | (0, x) :: r => K L ((1, x) :: r) G | _ => False
def sg_m57 (lo N : Nat) (n m : Int) (j k : Nat) (L : SgL) (S : SgS) (G : SgM) (K : SgK) : Prop := match S with | v :: r => v.1 ≠ 1 ∧ K L (v :: v :: r) G | _ => False
def sg_m58 (lo N : Nat) (n m : Int) (j k : Nat) (L : SgL) (S : SgS) (G : SgM) (K : SgK) : Prop := match S with | v :: w :: r => (v.1 ≠ 1 ∧ w.1 ≠ 1) ∧ K L (v :: w :: v :: w :: r) G | _ => False
def sg_m59 (lo N : Nat) (n m : Int) (j k : Nat) (L : SgL) (S : SgS) (G : SgM) (K : SgK) : Prop := match S with | v :: r => v.1 ≠ 1 ∧ K L r G | _ => False
def sg_m62 (lo N : Nat) (n m : Int) (j k : Nat) (L : SgL) (S : SgS) (G : SgM) (K : SgK) : Prop := match S with | (3, i) :: r => (0 ≤ i ∧ i < 6) ∧ K L ((4, i) :: r) G | _ => False
def sg_m63 (lo N : Nat) (n m : Int) (j k : Nat) (L : SgL) (S : SgS) (G : SgM) (K : SgK) : Prop := match S with | (3, i) :: r => (0 ≤ i ∧ i < 6) ∧ K L ((0, 0) :: r) G | _ => False
def sg_m66 (lo N : Nat) (n m : Int) (j k : Nat) (L : SgL) (S : SgS) (G : SgM) (K : SgK) : Prop := match S with | (0, i) :: (4, s) :: r => ((0 ≤ s ∧ s < 6) ∧ 0 ≤ i ∧ i < sg_ll s) ∧ K L ((0, sg_lb s i) :: r) G | _ => False
def sg_m67 (lo N : Nat) (n m : Int) (j k : Nat) (L : SgL) (S : SgS) (G : SgM) (K : SgK) : Prop := match S with | (4, s) :: r => (0 ≤ s ∧ s < 6) ∧ K L ((0, sg_ll s) :: r) G | _ => False
def sg_m68 (lo N : Nat) (n m : Int) (j k : Nat) (L : SgL) (S : SgS) (G : SgM) (K : SgK) : Prop := match S with | (0, i) :: (5, s) :: r => (0 ≤ i ∧ i < 3) ∧ K L ((0, (sg_loud i.toNat).toInt) :: r) G | _ => False
def sg_ins (i : SgI) : Instr × Nat := match i with
  | (1, n, m, j, k) => (.aload_n (Fin.ofNat 4 j), 1)
  | (2, n, m, j, k) => (.aload j, 2)
  | (3, n, m, j, k) => (.iload_n (Fin.ofNat 4 j), 1)
  | (4, n, m, j, k) => (.iload j, 2)
  | (5, n, m, j, k) => (.lload_n (Fin.ofNat 4 j), 1)
  | (6, n, m, j, k) => (.lload j, 2)
  | (7, n, m, j, k) => (.iconst n, 1)
  | (8, n, m, j, k) => (.bipush n, 2)
  | (9, n, m, j, k) => (.sipush n, 3)
  | (10, n, m, j, k) => (.lconst (Fin.ofNat 2 j), 1)
  | (11, n, m, j, k) => (.ldc j, 2)
  | (12, n, m, j, k) => (.ldc2_w j, 3)
  | (13, n, m, j, k) => (.ldc j, 2)
  | (14, n, m, j, k) => (.ldc_w j, 3)
  | (15, n, m, j, k) => (.getfield j, 3)
  | (65, n, m, j, k) => (.getfield j, 3)
  | (16, n, m, j, k) => (.putfield j, 3)
  | (17, n, m, j, k) => (.iaload, 1)
  | (18, n, m, j, k) => (.iastore, 1)
  | (19, n, m, j, k) => (.baload, 1)
  | (20, n, m, j, k) => (.bastore, 1)
  | (21, n, m, j, k) => (.laload, 1)
  | (22, n, m, j, k) => (.lastore, 1)
  | (23, n, m, j, k) => (.aaload, 1)
  | (24, n, m, j, k) => (.arraylength, 1)
  | (25, n, m, j, k) => (.istore_n (Fin.ofNat 4 j), 1)
  | (26, n, m, j, k) => (.istore j, 2)
  | (27, n, m, j, k) => (.lstore_n (Fin.ofNat 4 j), 1)
  | (28, n, m, j, k) => (.lstore j, 2)
  | (29, n, m, j, k) => (.astore_n (Fin.ofNat 4 j), 1)
  | (30, n, m, j, k) => (.astore j, 2)
  | (31, n, m, j, k) => (.iinc j n, 3)
  | (32, n, m, j, k) => (.iadd, 1)
  | (33, n, m, j, k) => (.isub, 1)
  | (34, n, m, j, k) => (.imul, 1)
  | (35, n, m, j, k) => (.idiv, 1)
  | (36, n, m, j, k) => (.irem, 1)
  | (37, n, m, j, k) => (.ineg, 1)
  | (38, n, m, j, k) => (.iand, 1)
  | (39, n, m, j, k) => (.ior, 1)
  | (40, n, m, j, k) => (.ixor, 1)
  | (41, n, m, j, k) => (.ishl, 1)
  | (42, n, m, j, k) => (.ishr, 1)
  | (43, n, m, j, k) => (.iushr, 1)
  | (44, n, m, j, k) => (.ladd, 1)
  | (45, n, m, j, k) => (.lsub, 1)
  | (46, n, m, j, k) => (.lmul, 1)
  | (47, n, m, j, k) => (.ldiv, 1)
  | (48, n, m, j, k) => (.lrem, 1)
  | (49, n, m, j, k) => (.land, 1)
  | (50, n, m, j, k) => (.lshl, 1)
  | (51, n, m, j, k) => (.lshr, 1)
  | (52, n, m, j, k) => (.lcmp, 1)
  | (53, n, m, j, k) => (.i2l, 1)
  | (54, n, m, j, k) => (.i2b, 1)
  | (55, n, m, j, k) => (.i2s, 1)
  | (56, n, m, j, k) => (.i2c, 1)
  | (57, n, m, j, k) => (.dup, 1)
  | (58, n, m, j, k) => (.dup2, 1)
  | (59, n, m, j, k) => (.pop, 1)
  | (60, n, m, j, k) => (.getstatic j, 3)
  | (61, n, m, j, k) => (.getstatic j, 3)
  | (62, n, m, j, k) => (.getfield j, 3)
  | (63, n, m, j, k) => (.getfield j, 3)
  | (66, n, m, j, k) => (.baload, 1)
  | (67, n, m, j, k) => (.arraylength, 1)
  | (68, n, m, j, k) => (.iaload, 1)
  | _ => (.nop, 0)
def sg_lk (own maxL : Nat) (i : SgI) : Bool := match i with
  | (11, n, m, j, k) => decide ((own, j, n) ∈ sg_ct)
  | (12, n, m, j, k) => decide ((own, j, n) ∈ sg_lt)
  | (13, n, m, j, k) => decide (own = 7) && (decide (k < 6) && decide (j = sg_si.getD k 0))
  | (14, n, m, j, k) => decide ((own, j, n) ∈ sg_ct)
  | (15, n, m, j, k) => decide ((own, j, m.toNat, k) ∈ sg_fl) && decide (sg_ft m.toNat k = 0)
  | (65, n, m, j, k) => decide ((own, j, m.toNat, k) ∈ sg_fl) && !decide (sg_ft m.toNat k = 0)
  | (16, n, m, j, k) => decide ((own, j, m.toNat, k) ∈ sg_fl) && decide ((m.toNat, k) ∈ sg_fp)
  | (25, n, m, j, k) => decide (j % 4 < maxL)
  | (26, n, m, j, k) => decide (j < maxL)
  | (27, n, m, j, k) => decide (j % 4 + 1 < maxL)
  | (28, n, m, j, k) => decide (j + 1 < maxL)
  | (29, n, m, j, k) => decide (j % 4 < maxL)
  | (30, n, m, j, k) => decide (j < maxL)
  | (31, n, m, j, k) => decide (j < maxL)
  | (60, n, m, j, k) => decide (own = 20) && decide (j = sg_gsc)
  | (61, n, m, j, k) => decide (own = 8) && decide (j = sg_gsl)
  | (62, n, m, j, k) => decide (own = 20) && decide (j = sg_gfv)
  | (63, n, m, j, k) => decide (own = 20) && decide (j = sg_gfc)
  | _ => true
def sg_st (lo N : Nat) (i : SgI) (L : SgL) (S : SgS) (G : SgM) (K : SgK) : Prop := match i with
  | (1, n, m, j, k) => sg_lda (j % 4) L S G K
  | (2, n, m, j, k) => sg_lda j L S G K
  | (3, n, m, j, k) => sg_ldx 0 (j % 4) L S G K
  | (4, n, m, j, k) => sg_ldx 0 j L S G K
  | (5, n, m, j, k) => sg_ldx 1 (j % 4) L S G K
  | (6, n, m, j, k) => sg_ldx 1 j L S G K
  | (7, n, m, j, k) => sg_32 n ∧ K L ((0, n) :: S) G
  | (8, n, m, j, k) => (Int8.ofInt n).toInt32 = Int32.ofInt n ∧ sg_32 n ∧ K L ((0, n) :: S) G
  | (9, n, m, j, k) => (Int16.ofInt n).toInt32 = Int32.ofInt n ∧ sg_32 n ∧ K L ((0, n) :: S) G
  | (10, n, m, j, k) => K L ((1, ((j % 2 : Nat) : Int)) :: S) G
  | (11, n, m, j, k) => sg_32 n ∧ K L ((0, n) :: S) G
  | (12, n, m, j, k) => sg_64 n ∧ K L ((1, n) :: S) G
  | (13, n, m, j, k) => K L ((3, (k : Int)) :: S) G
  | (14, n, m, j, k) => sg_32 n ∧ K L ((0, n) :: S) G
  | (15, n, m, j, k) => sg_m15 lo N n m j k L S G K
  | (65, n, m, j, k) => sg_m65 lo N n m j k L S G K
  | (16, n, m, j, k) => sg_m16 lo N n m j k L S G K
  | (17, n, m, j, k) => sg_m17 lo N n m j k L S G K
  | (18, n, m, j, k) => sg_m18 lo N n m j k L S G K
  | (19, n, m, j, k) => sg_m19 lo N n m j k L S G K
  | (20, n, m, j, k) => sg_m20 lo N n m j k L S G K
  | (21, n, m, j, k) => sg_m21 lo N n m j k L S G K
  | (22, n, m, j, k) => sg_m22 lo N n m j k L S G K
  | (23, n, m, j, k) => sg_m23 lo N n m j k L S G K
  | (24, n, m, j, k) => sg_m24 lo N n m j k L S G K
  | (25, n, m, j, k) => sg_stx 0 (j % 4) L S G K
  | (26, n, m, j, k) => sg_stx 0 j L S G K
  | (27, n, m, j, k) => sg_stx 1 (j % 4) L S G K
  | (28, n, m, j, k) => sg_stx 1 j L S G K
  | (29, n, m, j, k) => sg_sta (j % 4) L S G K
  | (30, n, m, j, k) => sg_sta j L S G K
  | (31, n, m, j, k) => sg_inc j n L S G K
  | (32, n, m, j, k) => sg_b2 sg_iadd L S G K
  | (33, n, m, j, k) => sg_b2 sg_isub L S G K
  | (34, n, m, j, k) => sg_b2 sg_imul L S G K
  | (35, n, m, j, k) => sg_bd sg_idiv L S G K
  | (36, n, m, j, k) => sg_bd sg_irem L S G K
  | (37, n, m, j, k) => sg_u1 sg_ineg L S G K
  | (38, n, m, j, k) => sg_b2 sg_iand L S G K
  | (39, n, m, j, k) => sg_b2 sg_ior L S G K
  | (40, n, m, j, k) => sg_b2 sg_ixor L S G K
  | (41, n, m, j, k) => sg_b2 sg_ishl L S G K
  | (42, n, m, j, k) => sg_b2 sg_ishr L S G K
  | (43, n, m, j, k) => sg_b2 sg_iushr L S G K
  | (44, n, m, j, k) => sg_bl sg_ladd L S G K
  | (45, n, m, j, k) => sg_bl sg_lsub L S G K
  | (46, n, m, j, k) => sg_bl sg_lmul L S G K
  | (47, n, m, j, k) => sg_bld sg_ldiv L S G K
  | (48, n, m, j, k) => sg_bld sg_lrem L S G K
  | (49, n, m, j, k) => sg_bl sg_land L S G K
  | (50, n, m, j, k) => sg_bs sg_lshl L S G K
  | (51, n, m, j, k) => sg_bs sg_lshr L S G K
  | (52, n, m, j, k) => sg_m52 lo N n m j k L S G K
  | (53, n, m, j, k) => sg_m53 lo N n m j k L S G K
  | (54, n, m, j, k) => sg_u1 sg_i2b L S G K
  | (55, n, m, j, k) => sg_u1 sg_i2s L S G K
  | (56, n, m, j, k) => sg_u1 sg_i2c L S G K
  | (57, n, m, j, k) => sg_m57 lo N n m j k L S G K
  | (58, n, m, j, k) => sg_m58 lo N n m j k L S G K
  | (59, n, m, j, k) => sg_m59 lo N n m j k L S G K
  | (60, n, m, j, k) => K L ((0, 1) :: S) G
  | (61, n, m, j, k) => K L ((5, 0) :: S) G
  | (62, n, m, j, k) => sg_m62 lo N n m j k L S G K
  | (63, n, m, j, k) => sg_m63 lo N n m j k L S G K
  | (66, n, m, j, k) => sg_m66 lo N n m j k L S G K
  | (67, n, m, j, k) => sg_m67 lo N n m j k L S G K
  | (68, n, m, j, k) => sg_m68 lo N n m j k L S G K
  | _ => False
end
section
/-! SOUNDNESS of the straight instructions, one by one, then of a row of them -/
section SgS
variable {lo N d : Nat} {y : SgY} {pc : Nat} {L : SgL} {S : SgS} {G : SgM} {Q : Int → SgM → Prop}
theorem sg_Hx.st {D : va_G} {cy : SgC} {a : SgA} {s : State} {H : Heap} {locs : List Loc} {ls : Array Slot} {S' : SgS} (h : sg_Hx lo N y D cy a s G H locs ls L S) (hs : ∀ v ∈ S', sg_cv v) : sg_Hx lo N y D cy a s G H locs ls L S' :=
  ⟨h.1, h.2.1, h.2.2.1, h.2.2.2.1, h.2.2.2.2.1, h.2.2.2.2.2.1, hs⟩
theorem sg_Hx.sk {D : va_G} {cy : SgC} {a : SgA} {s : State} {H : Heap} {locs : List Loc} {ls : Array Slot} (h : sg_Hx lo N y D cy a s G H locs ls L S) : ∀ v ∈ S, sg_cv v := h.2.2.2.2.2.2
theorem sg_cons {v : Nat × Int} {r : SgS} (h : sg_cv v) (hr : ∀ w ∈ r, sg_cv w) : ∀ w ∈ v :: r, sg_cv w := List.forall_mem_cons.mpr ⟨h, hr⟩
theorem sg_tl1 {v : Nat × Int} {r : SgS} (h : ∀ w ∈ v :: r, sg_cv w) : ∀ w ∈ r, sg_cv w := (List.forall_mem_cons.mp h).2
theorem sg_hd1 {v : Nat × Int} {r : SgS} (h : ∀ w ∈ v :: r, sg_cv w) : sg_cv v := (List.forall_mem_cons.mp h).1
theorem sg_vi (a : SgA) (x : Int32) : sg_v a (0, x.toInt) = .int x := congrArg Value.int (Int32.ofInt_toInt x)
theorem sg_vl (a : SgA) (x : Int64) : sg_v a (1, x.toInt) = .long x := congrArg Value.long (Int64.ofInt_toInt x)
theorem sg_ne32 {x : Int} (h : sg_32 x) (h0 : x ≠ 0) : ¬ Int32.ofInt x = 0 := fun e => h0 (by
  have h1 : (Int32.ofInt x).toInt = x := h
  rw [e] at h1
  exact h1.symm)
theorem sg_ne64 {x : Int} (h : sg_64 x) (h0 : x ≠ 0) : ¬ Int64.ofInt x = 0 := fun e => h0 (by
  have h1 : (Int64.ofInt x).toInt = x := h
  rw [e] at h1
  exact h1.symm)
theorem sg_get_mem : ∀ {L : SgL} {j : Nat} {v : Nat × Int}, sg_get L j = some v → (j, v) ∈ L
  | q :: r, j, v, h => by
    unfold sg_get at h
    by_cases e : q.1 = j
    · rw [if_pos e] at h
      cases h
      rw [← e]
      exact List.mem_cons_self
    · rw [if_neg e] at h
      exact List.mem_cons_of_mem _ (sg_get_mem h)
theorem sg_Hx.loc {D : va_G} {cy : SgC} {a : SgA} {s : State} {H : Heap} {locs : List Loc} {ls : Array Slot} {j : Nat} {v : Nat × Int} (h : sg_Hx lo N y D cy a s G H locs ls L S) (hj : sg_get L j = some v) : ls[j]? = some (.val (sg_v a v)) ∧ sg_cv v :=
  ⟨h.2.2.2.2.1.2.2 _ (List.mem_map.mpr ⟨_, sg_get_mem hj, rfl⟩), h.2.2.2.2.2.1 _ (sg_get_mem hj)⟩
theorem sg_ref2 (a : SgA) {v : Nat × Int} (h : 2 ≤ v.1) : ∃ q : Nat, sg_v a v = .ref q := by
  obtain ⟨t, x⟩ := v
  match t, h with
  | 2, _ => exact ⟨_, rfl⟩
  | 3, _ => exact ⟨_, rfl⟩
  | 4, _ => exact ⟨_, rfl⟩
  | t + 5, _ => exact ⟨_, rfl⟩
theorem sg_cv2 {v : Nat × Int} (h : 2 ≤ v.1) : sg_cv v := by
  obtain ⟨t, x⟩ := v
  match t, h with
  | t + 2, _ => exact trivial
theorem sg_cat {a : SgA} {v : Nat × Int} (h : v.1 ≠ 1) : (sg_v a v).category = 1 := by
  obtain ⟨t, x⟩ := v
  match t, h with
  | 0, _ => rfl
  | 1, h => exact absurd rfl h
  | 2, _ => rfl
  | 3, _ => rfl
  | 4, _ => rfl
  | t + 5, _ => rfl
/-- what is stored stands in the locals; what the machine keeps, ours keep -/
theorem sg_set_mem {L : SgL} {j : Nat} {v q : Nat × Int} {i : Nat} (h : (i, q) ∈ sg_set L j v) : (i = j ∧ q = v) ∨ ((i, q) ∈ L ∧ i ≠ j ∧ ¬ (i + 1 = j ∧ q.1 = 1) ∧ ¬ (v.1 = 1 ∧ i = j + 1)) := by
  unfold sg_set at h
  rcases List.mem_append.mp h with h | h
  · obtain ⟨x, hx, he⟩ := List.mem_map.mp h
    obtain ⟨hx1, hx2⟩ := List.mem_filter.mp hx
    by_cases e : x.1 = j
    · rw [if_pos e] at he
      cases he
      exact Or.inl ⟨rfl, rfl⟩
    · rw [if_neg e] at he
      subst he
      refine Or.inr ⟨hx1, e, ?_⟩
      simp only [e, decide_false, Bool.false_or, Bool.and_eq_true, Bool.not_eq_true', Bool.and_eq_false_iff, decide_eq_false_iff_not] at hx2
      refine ⟨fun z => ?_, fun z => ?_⟩
      · rcases hx2.1 with g | g
        · exact g z.1
        · exact g z.2
      · rcases hx2.2 with g | g
        · exact g z.1
        · exact g z.2
  · by_cases e : L.any (fun q => decide (q.1 = j)) = true
    · rw [if_pos e] at h
      cases h
    · rw [if_neg e] at h
      cases List.mem_singleton.mp h
      exact Or.inl ⟨rfl, rfl⟩
theorem sg_set_cv {L : SgL} {j : Nat} {v : Nat × Int} (hL : ∀ q ∈ L, sg_cv q.2) (hv : sg_cv v) : ∀ q ∈ sg_set L j v, sg_cv q.2 := by
  intro q hq
  obtain ⟨i, w⟩ := q
  rcases sg_set_mem hq with ⟨-, rfl⟩ | ⟨h, -⟩
  · exact hv
  · exact hL _ h
theorem sg_cat2 {a : SgA} {v : Nat × Int} : ((sg_v a v).category == 2) = decide (v.1 = 1) := by
  obtain ⟨t, x⟩ := v
  match t with
  | 0 => rfl
  | 1 => rfl
  | 2 => rfl
  | 3 => rfl
  | 4 => rfl
  | t + 5 => simp [sg_v, Value.category]
theorem sg_set_has1 {a : SgA} {ls : Array Slot} {nL j : Nat} {v : Nat × Int} (hv : v.1 ≠ 1) (h : lv_has ls nL ((j, sg_v a v) :: (L.map (fun q => (q.1, sg_v a q.2))).filter (fun q => !(q.1 == j) && !(q.1 + 1 == j && q.2.category == 2)))) : lv_has ls nL ((sg_set L j v).map (fun q => (q.1, sg_v a q.2))) := by
  refine ⟨h.1, h.2.1, fun q hq => ?_⟩
  obtain ⟨⟨i, w⟩, hx, rfl⟩ := List.mem_map.mp hq
  rcases sg_set_mem hx with ⟨rfl, rfl⟩ | ⟨h1, h2, h3, -⟩
  · exact h.2.2 _ List.mem_cons_self
  · refine h.2.2 _ (List.mem_cons_of_mem _ (List.mem_filter.mpr ⟨List.mem_map.mpr ⟨_, h1, rfl⟩, ?_⟩))
    simp only [sg_cat2, Bool.and_eq_true, Bool.not_eq_true', beq_eq_false_iff_ne, ne_eq, h2, not_false_eq_true, true_and]
    by_cases e : i + 1 = j
    · simp only [e, beq_self_eq_true, Bool.true_and, decide_eq_false_iff_not]
      exact fun z => h3 ⟨e, z⟩
    · simp [e]
theorem sg_set_has2 {a : SgA} {ls : Array Slot} {nL j : Nat} {v : Nat × Int} (hv : v.1 = 1) (h : lv_has ls nL ((j, sg_v a v) :: (L.map (fun q => (q.1, sg_v a q.2))).filter (fun q => !(q.1 == j) && (!(q.1 == j + 1) && !(q.1 + 1 == j && q.2.category == 2))))) : lv_has ls nL ((sg_set L j v).map (fun q => (q.1, sg_v a q.2))) := by
  refine ⟨h.1, h.2.1, fun q hq => ?_⟩
  obtain ⟨⟨i, w⟩, hx, rfl⟩ := List.mem_map.mp hq
  rcases sg_set_mem hx with ⟨rfl, rfl⟩ | ⟨h1, h2, h3, h4⟩
  · exact h.2.2 _ List.mem_cons_self
  · refine h.2.2 _ (List.mem_cons_of_mem _ (List.mem_filter.mpr ⟨List.mem_map.mpr ⟨_, h1, rfl⟩, ?_⟩))
    have h5 : ¬ i = j + 1 := fun z => h4 ⟨hv, z⟩
    simp only [sg_cat2, Bool.and_eq_true, Bool.not_eq_true', beq_eq_false_iff_ne, ne_eq, h2, h5, not_false_eq_true, true_and]
    by_cases e : i + 1 = j
    · simp only [e, beq_self_eq_true, Bool.true_and, decide_eq_false_iff_not]
      exact fun z => h3 ⟨e, z⟩
    · simp [e]
theorem sg_Hx.set {D : va_G} {cy : SgC} {a : SgA} {s : State} {H : Heap} {locs : List Loc} {ls ls' : Array Slot} {L' : SgL} {S' : SgS} (h : sg_Hx lo N y D cy a s G H locs ls L S) (hl : lv_has ls' y.2.2.2.1 (L'.map (fun q => (q.1, sg_v a q.2)))) (hc : ∀ q ∈ L', sg_cv q.2) (hs : ∀ v ∈ S', sg_cv v) : sg_Hx lo N y D cy a s G H locs ls' L' S' :=
  ⟨h.1, h.2.1, h.2.2.1, h.2.2.2.1, hl, hc, hs⟩

theorem sg_o32 {n m0 : Int} {j k : Nat} (hd : decode y.2.2.1 pc = .ok (.iadd, 1)) {K : SgK} (hK : ∀ L2 S2 G2, K L2 S2 G2 → sg_Wp lo N d y (pc + 1) L2 S2 G2 Q) (h : sg_b2 sg_iadd L S G K) : sg_Wp lo N d y pc L S G Q := by
  unfold sg_b2 at h
  split at h
  · intro p l e R s m args below meth c D cy a H locs ls hC hH
    have k := hK _ _ _ h p l e R s m args below meth c D cy a H locs ls hC (hH.st (sg_cons (sg_32_of _) (sg_tl1 (sg_tl1 hH.sk))))
    rw [List.map_cons] at k
    unfold sg_iadd at k
    rw [sg_vi] at k
    exact lv_iadd hC.1 hC.2.1 hd  k
  · exact h.elim
theorem sg_o33 {n m0 : Int} {j k : Nat} (hd : decode y.2.2.1 pc = .ok (.isub, 1)) {K : SgK} (hK : ∀ L2 S2 G2, K L2 S2 G2 → sg_Wp lo N d y (pc + 1) L2 S2 G2 Q) (h : sg_b2 sg_isub L S G K) : sg_Wp lo N d y pc L S G Q := by
  unfold sg_b2 at h
  split at h
  · intro p l e R s m args below meth c D cy a H locs ls hC hH
    have k := hK _ _ _ h p l e R s m args below meth c D cy a H locs ls hC (hH.st (sg_cons (sg_32_of _) (sg_tl1 (sg_tl1 hH.sk))))
    rw [List.map_cons] at k
    unfold sg_isub at k
    rw [sg_vi] at k
    exact lv_isub hC.1 hC.2.1 hd  k
  · exact h.elim
theorem sg_o34 {n m0 : Int} {j k : Nat} (hd : decode y.2.2.1 pc = .ok (.imul, 1)) {K : SgK} (hK : ∀ L2 S2 G2, K L2 S2 G2 → sg_Wp lo N d y (pc + 1) L2 S2 G2 Q) (h : sg_b2 sg_imul L S G K) : sg_Wp lo N d y pc L S G Q := by
  unfold sg_b2 at h
  split at h
  · intro p l e R s m args below meth c D cy a H locs ls hC hH
    have k := hK _ _ _ h p l e R s m args below meth c D cy a H locs ls hC (hH.st (sg_cons (sg_32_of _) (sg_tl1 (sg_tl1 hH.sk))))
    rw [List.map_cons] at k
    unfold sg_imul at k
    rw [sg_vi] at k
    exact lv_imul hC.1 hC.2.1 hd  k
  · exact h.elim
theorem sg_o38 {n m0 : Int} {j k : Nat} (hd : decode y.2.2.1 pc = .ok (.iand, 1)) {K : SgK} (hK : ∀ L2 S2 G2, K L2 S2 G2 → sg_Wp lo N d y (pc + 1) L2 S2 G2 Q) (h : sg_b2 sg_iand L S G K) : sg_Wp lo N d y pc L S G Q := by
  unfold sg_b2 at h
  split at h
  · intro p l e R s m args below meth c D cy a H locs ls hC hH
    have k := hK _ _ _ h p l e R s m args below meth c D cy a H locs ls hC (hH.st (sg_cons (sg_32_of _) (sg_tl1 (sg_tl1 hH.sk))))
    rw [List.map_cons] at k
    unfold sg_iand at k
    rw [sg_vi] at k
    exact lv_iand hC.1 hC.2.1 hd  k
  · exact h.elim
theorem sg_o39 {n m0 : Int} {j k : Nat} (hd : decode y.2.2.1 pc = .ok (.ior, 1)) {K : SgK} (hK : ∀ L2 S2 G2, K L2 S2 G2 → sg_Wp lo N d y (pc + 1) L2 S2 G2 Q) (h : sg_b2 sg_ior L S G K) : sg_Wp lo N d y pc L S G Q := by
  unfold sg_b2 at h
  split at h
  · intro p l e R s m args below meth c D cy a H locs ls hC hH
    have k := hK _ _ _ h p l e R s m args below meth c D cy a H locs ls hC (hH.st (sg_cons (sg_32_of _) (sg_tl1 (sg_tl1 hH.sk))))
    rw [List.map_cons] at k
    unfold sg_ior at k
    rw [sg_vi] at k
    exact lv_ior hC.1 hC.2.1 hd  k
  · exact h.elim
theorem sg_o40 {n m0 : Int} {j k : Nat} (hd : decode y.2.2.1 pc = .ok (.ixor, 1)) {K : SgK} (hK : ∀ L2 S2 G2, K L2 S2 G2 → sg_Wp lo N d y (pc + 1) L2 S2 G2 Q) (h : sg_b2 sg_ixor L S G K) : sg_Wp lo N d y pc L S G Q := by
  unfold sg_b2 at h
  split at h
  · intro p l e R s m args below meth c D cy a H locs ls hC hH
    have k := hK _ _ _ h p l e R s m args below meth c D cy a H locs ls hC (hH.st (sg_cons (sg_32_of _) (sg_tl1 (sg_tl1 hH.sk))))
    rw [List.map_cons] at k
    unfold sg_ixor at k
    rw [sg_vi] at k
    exact lv_ixor hC.1 hC.2.1 hd  k
  · exact h.elim
theorem sg_o41 {n m0 : Int} {j k : Nat} (hd : decode y.2.2.1 pc = .ok (.ishl, 1)) {K : SgK} (hK : ∀ L2 S2 G2, K L2 S2 G2 → sg_Wp lo N d y (pc + 1) L2 S2 G2 Q) (h : sg_b2 sg_ishl L S G K) : sg_Wp lo N d y pc L S G Q := by
  unfold sg_b2 at h
  split at h
  · intro p l e R s m args below meth c D cy a H locs ls hC hH
    have k := hK _ _ _ h p l e R s m args below meth c D cy a H locs ls hC (hH.st (sg_cons (sg_32_of _) (sg_tl1 (sg_tl1 hH.sk))))
    rw [List.map_cons] at k
    unfold sg_ishl at k
    rw [sg_vi] at k
    exact lv_ishl hC.1 hC.2.1 hd  k
  · exact h.elim
theorem sg_o42 {n m0 : Int} {j k : Nat} (hd : decode y.2.2.1 pc = .ok (.ishr, 1)) {K : SgK} (hK : ∀ L2 S2 G2, K L2 S2 G2 → sg_Wp lo N d y (pc + 1) L2 S2 G2 Q) (h : sg_b2 sg_ishr L S G K) : sg_Wp lo N d y pc L S G Q := by
  unfold sg_b2 at h
  split at h
  · intro p l e R s m args below meth c D cy a H locs ls hC hH
    have k := hK _ _ _ h p l e R s m args below meth c D cy a H locs ls hC (hH.st (sg_cons (sg_32_of _) (sg_tl1 (sg_tl1 hH.sk))))
    rw [List.map_cons] at k
    unfold sg_ishr at k
    rw [sg_vi] at k
    exact lv_ishr hC.1 hC.2.1 hd  k
  · exact h.elim
theorem sg_o43 {n m0 : Int} {j k : Nat} (hd : decode y.2.2.1 pc = .ok (.iushr, 1)) {K : SgK} (hK : ∀ L2 S2 G2, K L2 S2 G2 → sg_Wp lo N d y (pc + 1) L2 S2 G2 Q) (h : sg_b2 sg_iushr L S G K) : sg_Wp lo N d y pc L S G Q := by
  unfold sg_b2 at h
  split at h
  · intro p l e R s m args below meth c D cy a H locs ls hC hH
    have k := hK _ _ _ h p l e R s m args below meth c D cy a H locs ls hC (hH.st (sg_cons (sg_32_of _) (sg_tl1 (sg_tl1 hH.sk))))
    rw [List.map_cons] at k
    unfold sg_iushr at k
    rw [sg_vi] at k
    exact lv_iushr hC.1 hC.2.1 hd rfl k
  · exact h.elim
theorem sg_o35 {n m0 : Int} {j k : Nat} (hd : decode y.2.2.1 pc = .ok (.idiv, 1)) {K : SgK} (hK : ∀ L2 S2 G2, K L2 S2 G2 → sg_Wp lo N d y (pc + 1) L2 S2 G2 Q) (h : sg_bd sg_idiv L S G K) : sg_Wp lo N d y pc L S G Q := by
  unfold sg_bd at h
  split at h
  · obtain ⟨h0, h⟩ := h
    intro p l e R s m args below meth c D cy a H locs ls hC hH
    have k := hK _ _ _ h p l e R s m args below meth c D cy a H locs ls hC (hH.st (sg_cons (sg_32_of _) (sg_tl1 (sg_tl1 hH.sk))))
    rw [List.map_cons] at k
    unfold sg_idiv at k
    rw [sg_vi] at k
    exact lv_idiv hC.1 hC.2.1 hd (sg_ne32 (sg_hd1 hH.sk) h0) k
  · exact h.elim
theorem sg_o36 {n m0 : Int} {j k : Nat} (hd : decode y.2.2.1 pc = .ok (.irem, 1)) {K : SgK} (hK : ∀ L2 S2 G2, K L2 S2 G2 → sg_Wp lo N d y (pc + 1) L2 S2 G2 Q) (h : sg_bd sg_irem L S G K) : sg_Wp lo N d y pc L S G Q := by
  unfold sg_bd at h
  split at h
  · obtain ⟨h0, h⟩ := h
    intro p l e R s m args below meth c D cy a H locs ls hC hH
    have k := hK _ _ _ h p l e R s m args below meth c D cy a H locs ls hC (hH.st (sg_cons (sg_32_of _) (sg_tl1 (sg_tl1 hH.sk))))
    rw [List.map_cons] at k
    unfold sg_irem at k
    rw [sg_vi] at k
    exact lv_irem hC.1 hC.2.1 hd (sg_ne32 (sg_hd1 hH.sk) h0) k
  · exact h.elim
theorem sg_o44 {n m0 : Int} {j k : Nat} (hd : decode y.2.2.1 pc = .ok (.ladd, 1)) {K : SgK} (hK : ∀ L2 S2 G2, K L2 S2 G2 → sg_Wp lo N d y (pc + 1) L2 S2 G2 Q) (h : sg_bl sg_ladd L S G K) : sg_Wp lo N d y pc L S G Q := by
  unfold sg_bl at h
  split at h
  · intro p l e R s m args below meth c D cy a H locs ls hC hH
    have k := hK _ _ _ h p l e R s m args below meth c D cy a H locs ls hC (hH.st (sg_cons (sg_64_of _) (sg_tl1 (sg_tl1 hH.sk))))
    rw [List.map_cons] at k
    unfold sg_ladd at k
    rw [sg_vl] at k
    exact lv_ladd hC.1 hC.2.1 hd k
  · exact h.elim
theorem sg_o45 {n m0 : Int} {j k : Nat} (hd : decode y.2.2.1 pc = .ok (.lsub, 1)) {K : SgK} (hK : ∀ L2 S2 G2, K L2 S2 G2 → sg_Wp lo N d y (pc + 1) L2 S2 G2 Q) (h : sg_bl sg_lsub L S G K) : sg_Wp lo N d y pc L S G Q := by
  unfold sg_bl at h
  split at h
  · intro p l e R s m args below meth c D cy a H locs ls hC hH
    have k := hK _ _ _ h p l e R s m args below meth c D cy a H locs ls hC (hH.st (sg_cons (sg_64_of _) (sg_tl1 (sg_tl1 hH.sk))))
    rw [List.map_cons] at k
    unfold sg_lsub at k
    rw [sg_vl] at k
    exact lv_lsub hC.1 hC.2.1 hd k
  · exact h.elim
theorem sg_o46 {n m0 : Int} {j k : Nat} (hd : decode y.2.2.1 pc = .ok (.lmul, 1)) {K : SgK} (hK : ∀ L2 S2 G2, K L2 S2 G2 → sg_Wp lo N d y (pc + 1) L2 S2 G2 Q) (h : sg_bl sg_lmul L S G K) : sg_Wp lo N d y pc L S G Q := by
  unfold sg_bl at h
  split at h
  · intro p l e R s m args below meth c D cy a H locs ls hC hH
    have k := hK _ _ _ h p l e R s m args below meth c D cy a H locs ls hC (hH.st (sg_cons (sg_64_of _) (sg_tl1 (sg_tl1 hH.sk))))
    rw [List.map_cons] at k
    unfold sg_lmul at k
    rw [sg_vl] at k
    exact lv_lmul hC.1 hC.2.1 hd k
  · exact h.elim
theorem sg_o49 {n m0 : Int} {j k : Nat} (hd : decode y.2.2.1 pc = .ok (.land, 1)) {K : SgK} (hK : ∀ L2 S2 G2, K L2 S2 G2 → sg_Wp lo N d y (pc + 1) L2 S2 G2 Q) (h : sg_bl sg_land L S G K) : sg_Wp lo N d y pc L S G Q := by
  unfold sg_bl at h
  split at h
  · intro p l e R s m args below meth c D cy a H locs ls hC hH
    have k := hK _ _ _ h p l e R s m args below meth c D cy a H locs ls hC (hH.st (sg_cons (sg_64_of _) (sg_tl1 (sg_tl1 hH.sk))))
    rw [List.map_cons] at k
    unfold sg_land at k
    rw [sg_vl] at k
    exact lv_land hC.1 hC.2.1 hd k
  · exact h.elim
theorem sg_o47 {n m0 : Int} {j k : Nat} (hd : decode y.2.2.1 pc = .ok (.ldiv, 1)) {K : SgK} (hK : ∀ L2 S2 G2, K L2 S2 G2 → sg_Wp lo N d y (pc + 1) L2 S2 G2 Q) (h : sg_bld sg_ldiv L S G K) : sg_Wp lo N d y pc L S G Q := by
  unfold sg_bld at h
  split at h
  · obtain ⟨h0, h⟩ := h
    intro p l e R s m args below meth c D cy a H locs ls hC hH
    have k := hK _ _ _ h p l e R s m args below meth c D cy a H locs ls hC (hH.st (sg_cons (sg_64_of _) (sg_tl1 (sg_tl1 hH.sk))))
    rw [List.map_cons] at k
    unfold sg_ldiv at k
    rw [sg_vl] at k
    exact lv_ldiv hC.1 hC.2.1 hd (sg_ne64 (sg_hd1 hH.sk) h0) k
  · exact h.elim
theorem sg_o48 {n m0 : Int} {j k : Nat} (hd : decode y.2.2.1 pc = .ok (.lrem, 1)) {K : SgK} (hK : ∀ L2 S2 G2, K L2 S2 G2 → sg_Wp lo N d y (pc + 1) L2 S2 G2 Q) (h : sg_bld sg_lrem L S G K) : sg_Wp lo N d y pc L S G Q := by
  unfold sg_bld at h
  split at h
  · obtain ⟨h0, h⟩ := h
    intro p l e R s m args below meth c D cy a H locs ls hC hH
    have k := hK _ _ _ h p l e R s m args below meth c D cy a H locs ls hC (hH.st (sg_cons (sg_64_of _) (sg_tl1 (sg_tl1 hH.sk))))
    rw [List.map_cons] at k
    unfold sg_lrem at k
    rw [sg_vl] at k
    exact lv_lrem hC.1 hC.2.1 hd (sg_ne64 (sg_hd1 hH.sk) h0) k
  · exact h.elim
theorem sg_o50 {n m0 : Int} {j k : Nat} (hd : decode y.2.2.1 pc = .ok (.lshl, 1)) {K : SgK} (hK : ∀ L2 S2 G2, K L2 S2 G2 → sg_Wp lo N d y (pc + 1) L2 S2 G2 Q) (h : sg_bs sg_lshl L S G K) : sg_Wp lo N d y pc L S G Q := by
  unfold sg_bs at h
  split at h
  · intro p l e R s m args below meth c D cy a H locs ls hC hH
    have k := hK _ _ _ h p l e R s m args below meth c D cy a H locs ls hC (hH.st (sg_cons (sg_64_of _) (sg_tl1 (sg_tl1 hH.sk))))
    rw [List.map_cons] at k
    unfold sg_lshl at k
    rw [sg_vl] at k
    exact lv_lshl hC.1 hC.2.1 hd rfl k
  · exact h.elim
theorem sg_o51 {n m0 : Int} {j k : Nat} (hd : decode y.2.2.1 pc = .ok (.lshr, 1)) {K : SgK} (hK : ∀ L2 S2 G2, K L2 S2 G2 → sg_Wp lo N d y (pc + 1) L2 S2 G2 Q) (h : sg_bs sg_lshr L S G K) : sg_Wp lo N d y pc L S G Q := by
  unfold sg_bs at h
  split at h
  · intro p l e R s m args below meth c D cy a H locs ls hC hH
    have k := hK _ _ _ h p l e R s m args below meth c D cy a H locs ls hC (hH.st (sg_cons (sg_64_of _) (sg_tl1 (sg_tl1 hH.sk))))
    rw [List.map_cons] at k
    unfold sg_lshr at k
    rw [sg_vl] at k
    exact lv_lshr hC.1 hC.2.1 hd rfl k
  · exact h.elim
theorem sg_o37 {n m0 : Int} {j k : Nat} (hd : decode y.2.2.1 pc = .ok (.ineg, 1)) {K : SgK} (hK : ∀ L2 S2 G2, K L2 S2 G2 → sg_Wp lo N d y (pc + 1) L2 S2 G2 Q) (h : sg_u1 sg_ineg L S G K) : sg_Wp lo N d y pc L S G Q := by
  unfold sg_u1 at h
  split at h
  · intro p l e R s m args below meth c D cy a H locs ls hC hH
    have k := hK _ _ _ h p l e R s m args below meth c D cy a H locs ls hC (hH.st (sg_cons (sg_32_of _) (sg_tl1 hH.sk)))
    rw [List.map_cons] at k
    unfold sg_ineg at k
    rw [sg_vi] at k
    exact lv_ineg hC.1 hC.2.1 hd  k
  · exact h.elim
theorem sg_o54 {n m0 : Int} {j k : Nat} (hd : decode y.2.2.1 pc = .ok (.i2b, 1)) {K : SgK} (hK : ∀ L2 S2 G2, K L2 S2 G2 → sg_Wp lo N d y (pc + 1) L2 S2 G2 Q) (h : sg_u1 sg_i2b L S G K) : sg_Wp lo N d y pc L S G Q := by
  unfold sg_u1 at h
  split at h
  · intro p l e R s m args below meth c D cy a H locs ls hC hH
    have k := hK _ _ _ h p l e R s m args below meth c D cy a H locs ls hC (hH.st (sg_cons (sg_32_of _) (sg_tl1 hH.sk)))
    rw [List.map_cons] at k
    unfold sg_i2b at k
    rw [sg_vi] at k
    exact lv_i2b hC.1 hC.2.1 hd rfl k
  · exact h.elim
theorem sg_o55 {n m0 : Int} {j k : Nat} (hd : decode y.2.2.1 pc = .ok (.i2s, 1)) {K : SgK} (hK : ∀ L2 S2 G2, K L2 S2 G2 → sg_Wp lo N d y (pc + 1) L2 S2 G2 Q) (h : sg_u1 sg_i2s L S G K) : sg_Wp lo N d y pc L S G Q := by
  unfold sg_u1 at h
  split at h
  · intro p l e R s m args below meth c D cy a H locs ls hC hH
    have k := hK _ _ _ h p l e R s m args below meth c D cy a H locs ls hC (hH.st (sg_cons (sg_32_of _) (sg_tl1 hH.sk)))
    rw [List.map_cons] at k
    unfold sg_i2s at k
    rw [sg_vi] at k
    exact lv_i2s hC.1 hC.2.1 hd rfl k
  · exact h.elim
theorem sg_o56 {n m0 : Int} {j k : Nat} (hd : decode y.2.2.1 pc = .ok (.i2c, 1)) {K : SgK} (hK : ∀ L2 S2 G2, K L2 S2 G2 → sg_Wp lo N d y (pc + 1) L2 S2 G2 Q) (h : sg_u1 sg_i2c L S G K) : sg_Wp lo N d y pc L S G Q := by
  unfold sg_u1 at h
  split at h
  · intro p l e R s m args below meth c D cy a H locs ls hC hH
    have k := hK _ _ _ h p l e R s m args below meth c D cy a H locs ls hC (hH.st (sg_cons (sg_32_of _) (sg_tl1 hH.sk)))
    rw [List.map_cons] at k
    unfold sg_i2c at k
    rw [sg_vi] at k
    exact lv_i2c hC.1 hC.2.1 hd rfl k
  · exact h.elim
theorem sg_o52 {n m0 : Int} {j k : Nat} (hd : decode y.2.2.1 pc = .ok (.lcmp, 1)) {K : SgK} (hK : ∀ L2 S2 G2, K L2 S2 G2 → sg_Wp lo N d y (pc + 1) L2 S2 G2 Q) (h : sg_m52 lo N n m0 j k L S G K) : sg_Wp lo N d y pc L S G Q := by
  unfold sg_m52 at h
  split at h
  · intro p l e R s m args below meth c D cy a H locs ls hC hH
    rename_i y1 x1 r
    have hx : sg_64 x1 := sg_hd1 (sg_tl1 hH.sk)
    have hy : sg_64 y1 := sg_hd1 hH.sk
    have e1 : Int32.ofInt (sg_lcmp x1 y1) = lg_cmp (Int64.ofInt x1) (Int64.ofInt y1) := by
      unfold sg_lcmp lg_cmp
      have i1 : (Int64.ofInt x1 > Int64.ofInt y1) ↔ y1 < x1 := by
        show Int64.ofInt y1 < Int64.ofInt x1 ↔ _
        rw [Int64.lt_iff_toInt_lt, hx, hy]
      have i2 : (Int64.ofInt x1 = Int64.ofInt y1) ↔ x1 = y1 := by
        rw [← Int64.toInt_inj, hx, hy]
      by_cases c1 : y1 < x1
      · rw [if_pos c1, if_pos (i1.mpr c1)]
        rfl
      · rw [if_neg c1, if_neg (fun z => c1 (i1.mp z))]
        by_cases c2 : x1 = y1
        · rw [if_pos c2, if_pos (i2.mpr c2)]
          rfl
        · rw [if_neg c2, if_neg (fun z => c2 (i2.mp z))]
          rfl
    have hr : sg_32 (sg_lcmp x1 y1) := by
      unfold sg_lcmp
      by_cases c1 : y1 < x1
      · rw [if_pos c1]; rfl
      · rw [if_neg c1]
        by_cases c2 : x1 = y1
        · rw [if_pos c2]; rfl
        · rw [if_neg c2]; rfl
    have k := hK _ _ _ h p l e R s m args below meth c D cy a H locs ls hC (hH.st (sg_cons (v := (0, sg_lcmp x1 y1)) hr (sg_tl1 (sg_tl1 hH.sk))))
    rw [List.map_cons, show sg_v a (0, sg_lcmp x1 y1) = .int (lg_cmp (Int64.ofInt x1) (Int64.ofInt y1)) from congrArg Value.int e1] at k
    exact W.lcmp hC.1 hC.2.1 hd k
  · exact h.elim
theorem sg_o53 {n m0 : Int} {j k : Nat} (hd : decode y.2.2.1 pc = .ok (.i2l, 1)) {K : SgK} (hK : ∀ L2 S2 G2, K L2 S2 G2 → sg_Wp lo N d y (pc + 1) L2 S2 G2 Q) (h : sg_m53 lo N n m0 j k L S G K) : sg_Wp lo N d y pc L S G Q := by
  unfold sg_m53 at h
  split at h
  · intro p l e R s m args below meth c D cy a H locs ls hC hH
    rename_i x1 r
    have hx : (Int32.ofInt x1).toInt = x1 := sg_hd1 hH.sk
    have e1 : Int64.ofInt x1 = (Int32.ofInt x1).toInt64 := by
      rw [← Int64.toInt_inj, Int32.toInt_toInt64, hx]
      refine Int64.toInt_ofInt_of_le ?_ ?_
      · have := Int32.le_toInt (Int32.ofInt x1)
        omega
      · have := Int32.toInt_lt (Int32.ofInt x1)
        omega
    have h64 : sg_64 x1 := by
      show (Int64.ofInt x1).toInt = x1
      rw [e1, Int32.toInt_toInt64, hx]
    have k := hK _ _ _ h p l e R s m args below meth c D cy a H locs ls hC (hH.st (sg_cons (v := (1, x1)) h64 (sg_tl1 hH.sk)))
    rw [List.map_cons, show sg_v a (1, x1) = .long (Int32.ofInt x1).toInt64 from congrArg Value.long e1] at k
    exact lv_i2l hC.1 hC.2.1 hd rfl k
  · exact h.elim
theorem sg_o1 {n m0 : Int} {j k : Nat} (hd : decode y.2.2.1 pc = .ok (.aload_n (Fin.ofNat 4 j), 1)) {K : SgK} (hK : ∀ L2 S2 G2, K L2 S2 G2 → sg_Wp lo N d y (pc + 1) L2 S2 G2 Q) (h : sg_lda (j % 4) L S G K) : sg_Wp lo N d y pc L S G Q := by
  unfold sg_lda at h
  split at h
  · rename_i v hg
    obtain ⟨h0, h⟩ := h
    intro p l e R s m args below meth c D cy a H locs ls hC hH
    obtain ⟨g1, g2⟩ := hH.loc hg
    have k := hK _ _ _ h p l e R s m args below meth c D cy a H locs ls hC (hH.st (sg_cons g2 hH.sk))
    rw [List.map_cons] at k
    obtain ⟨q, hq⟩ := sg_ref2 a h0
    rw [hq] at g1 k
    exact lv_aload_n hC.1 hC.2.1 hd rfl g1 k
  · exact h.elim
theorem sg_o2 {n m0 : Int} {j k : Nat} (hd : decode y.2.2.1 pc = .ok (.aload j, 2)) {K : SgK} (hK : ∀ L2 S2 G2, K L2 S2 G2 → sg_Wp lo N d y (pc + 2) L2 S2 G2 Q) (h : sg_lda j L S G K) : sg_Wp lo N d y pc L S G Q := by
  unfold sg_lda at h
  split at h
  · rename_i v hg
    obtain ⟨h0, h⟩ := h
    intro p l e R s m args below meth c D cy a H locs ls hC hH
    obtain ⟨g1, g2⟩ := hH.loc hg
    have k := hK _ _ _ h p l e R s m args below meth c D cy a H locs ls hC (hH.st (sg_cons g2 hH.sk))
    rw [List.map_cons] at k
    obtain ⟨q, hq⟩ := sg_ref2 a h0
    rw [hq] at g1 k
    exact lv_aload hC.1 hC.2.1 hd g1 k
  · exact h.elim
theorem sg_o3 {n m0 : Int} {j k : Nat} (hd : decode y.2.2.1 pc = .ok (.iload_n (Fin.ofNat 4 j), 1)) {K : SgK} (hK : ∀ L2 S2 G2, K L2 S2 G2 → sg_Wp lo N d y (pc + 1) L2 S2 G2 Q) (h : sg_ldx 0 (j % 4) L S G K) : sg_Wp lo N d y pc L S G Q := by
  unfold sg_ldx at h
  split at h
  · rename_i v hg
    obtain ⟨h0, h⟩ := h
    obtain ⟨t, x⟩ := v
    cases h0
    intro p l e R s m args below meth c D cy a H locs ls hC hH
    obtain ⟨g1, g2⟩ := hH.loc hg
    have k := hK _ _ _ h p l e R s m args below meth c D cy a H locs ls hC (hH.st (sg_cons g2 hH.sk))
    exact lv_iload_n hC.1 hC.2.1 hd rfl g1 k
  · exact h.elim
theorem sg_o4 {n m0 : Int} {j k : Nat} (hd : decode y.2.2.1 pc = .ok (.iload j, 2)) {K : SgK} (hK : ∀ L2 S2 G2, K L2 S2 G2 → sg_Wp lo N d y (pc + 2) L2 S2 G2 Q) (h : sg_ldx 0 j L S G K) : sg_Wp lo N d y pc L S G Q := by
  unfold sg_ldx at h
  split at h
  · rename_i v hg
    obtain ⟨h0, h⟩ := h
    obtain ⟨t, x⟩ := v
    cases h0
    intro p l e R s m args below meth c D cy a H locs ls hC hH
    obtain ⟨g1, g2⟩ := hH.loc hg
    have k := hK _ _ _ h p l e R s m args below meth c D cy a H locs ls hC (hH.st (sg_cons g2 hH.sk))
    exact lv_iload hC.1 hC.2.1 hd g1 k
  · exact h.elim
theorem sg_o5 {n m0 : Int} {j k : Nat} (hd : decode y.2.2.1 pc = .ok (.lload_n (Fin.ofNat 4 j), 1)) {K : SgK} (hK : ∀ L2 S2 G2, K L2 S2 G2 → sg_Wp lo N d y (pc + 1) L2 S2 G2 Q) (h : sg_ldx 1 (j % 4) L S G K) : sg_Wp lo N d y pc L S G Q := by
  unfold sg_ldx at h
  split at h
  · rename_i v hg
    obtain ⟨h0, h⟩ := h
    obtain ⟨t, x⟩ := v
    cases h0
    intro p l e R s m args below meth c D cy a H locs ls hC hH
    obtain ⟨g1, g2⟩ := hH.loc hg
    have k := hK _ _ _ h p l e R s m args below meth c D cy a H locs ls hC (hH.st (sg_cons g2 hH.sk))
    exact lv_lload_n hC.1 hC.2.1 hd rfl g1 k
  · exact h.elim
theorem sg_o6 {n m0 : Int} {j k : Nat} (hd : decode y.2.2.1 pc = .ok (.lload j, 2)) {K : SgK} (hK : ∀ L2 S2 G2, K L2 S2 G2 → sg_Wp lo N d y (pc + 2) L2 S2 G2 Q) (h : sg_ldx 1 j L S G K) : sg_Wp lo N d y pc L S G Q := by
  unfold sg_ldx at h
  split at h
  · rename_i v hg
    obtain ⟨h0, h⟩ := h
    obtain ⟨t, x⟩ := v
    cases h0
    intro p l e R s m args below meth c D cy a H locs ls hC hH
    obtain ⟨g1, g2⟩ := hH.loc hg
    have k := hK _ _ _ h p l e R s m args below meth c D cy a H locs ls hC (hH.st (sg_cons g2 hH.sk))
    exact lv_lload hC.1 hC.2.1 hd g1 k
  · exact h.elim
theorem sg_o29 {n m0 : Int} {j k : Nat} (hj : (j % 4) < y.2.2.2.1) (hd : decode y.2.2.1 pc = .ok (.astore_n (Fin.ofNat 4 j), 1)) {K : SgK} (hK : ∀ L2 S2 G2, K L2 S2 G2 → sg_Wp lo N d y (pc + 1) L2 S2 G2 Q) (h : sg_sta (j % 4) L S G K) : sg_Wp lo N d y pc L S G Q := by
  unfold sg_sta at h
  split at h
  · rename_i v r
    obtain ⟨h0, h⟩ := h
    intro p l e R s m args below meth c D cy a H locs ls hC hH
    obtain ⟨q, hq⟩ := sg_ref2 a h0
    rw [List.map_cons, hq]
    refine lv_astore_n (lv' := ((j % 4), .ref q) :: (L.map (fun q => (q.1, sg_v a q.2))).filter (fun q => !(q.1 == (j % 4)) && !(q.1 + 1 == (j % 4) && q.2.category == 2))) hC.1 hC.2.1 hd rfl hH.2.2.2.2.1 hj rfl (fun ls' hl => ?_)
    rw [← hq] at hl
    exact hK _ _ _ h p l e R s m args below meth c D cy a H locs ls' hC (hH.set (sg_set_has1 (by omega) hl) (sg_set_cv hH.2.2.2.2.2.1 (sg_cv2 h0)) (sg_tl1 hH.sk))
  · exact h.elim
theorem sg_o30 {n m0 : Int} {j k : Nat} (hj : j < y.2.2.2.1) (hd : decode y.2.2.1 pc = .ok (.astore j, 2)) {K : SgK} (hK : ∀ L2 S2 G2, K L2 S2 G2 → sg_Wp lo N d y (pc + 2) L2 S2 G2 Q) (h : sg_sta j L S G K) : sg_Wp lo N d y pc L S G Q := by
  unfold sg_sta at h
  split at h
  · rename_i v r
    obtain ⟨h0, h⟩ := h
    intro p l e R s m args below meth c D cy a H locs ls hC hH
    obtain ⟨q, hq⟩ := sg_ref2 a h0
    rw [List.map_cons, hq]
    refine lv_astore (lv' := (j, .ref q) :: (L.map (fun q => (q.1, sg_v a q.2))).filter (fun q => !(q.1 == j) && !(q.1 + 1 == j && q.2.category == 2))) hC.1 hC.2.1 hd hH.2.2.2.2.1 hj rfl (fun ls' hl => ?_)
    rw [← hq] at hl
    exact hK _ _ _ h p l e R s m args below meth c D cy a H locs ls' hC (hH.set (sg_set_has1 (by omega) hl) (sg_set_cv hH.2.2.2.2.2.1 (sg_cv2 h0)) (sg_tl1 hH.sk))
  · exact h.elim
theorem sg_o25 {n m0 : Int} {j k : Nat} (hj : (j % 4) < y.2.2.2.1) (hd : decode y.2.2.1 pc = .ok (.istore_n (Fin.ofNat 4 j), 1)) {K : SgK} (hK : ∀ L2 S2 G2, K L2 S2 G2 → sg_Wp lo N d y (pc + 1) L2 S2 G2 Q) (h : sg_stx 0 (j % 4) L S G K) : sg_Wp lo N d y pc L S G Q := by
  unfold sg_stx at h
  split at h
  · rename_i v r
    obtain ⟨h0, h⟩ := h
    obtain ⟨t, x⟩ := v
    cases h0
    intro p l e R s m args below meth c D cy a H locs ls hC hH
    refine lv_istore_n hC.1 hC.2.1 hd rfl hH.2.2.2.2.1 hj rfl (fun ls' hl => ?_)
    exact hK _ _ _ h p l e R s m args below meth c D cy a H locs ls' hC (hH.set (sg_set_has1 (v := (0, x)) (by show (0 : Nat) ≠ 1; decide) hl) (sg_set_cv hH.2.2.2.2.2.1 (sg_hd1 hH.sk)) (sg_tl1 hH.sk))
  · exact h.elim
theorem sg_o26 {n m0 : Int} {j k : Nat} (hj : j < y.2.2.2.1) (hd : decode y.2.2.1 pc = .ok (.istore j, 2)) {K : SgK} (hK : ∀ L2 S2 G2, K L2 S2 G2 → sg_Wp lo N d y (pc + 2) L2 S2 G2 Q) (h : sg_stx 0 j L S G K) : sg_Wp lo N d y pc L S G Q := by
  unfold sg_stx at h
  split at h
  · rename_i v r
    obtain ⟨h0, h⟩ := h
    obtain ⟨t, x⟩ := v
    cases h0
    intro p l e R s m args below meth c D cy a H locs ls hC hH
    refine lv_istore hC.1 hC.2.1 hd hH.2.2.2.2.1 hj rfl (fun ls' hl => ?_)
    exact hK _ _ _ h p l e R s m args below meth c D cy a H locs ls' hC (hH.set (sg_set_has1 (v := (0, x)) (by show (0 : Nat) ≠ 1; decide) hl) (sg_set_cv hH.2.2.2.2.2.1 (sg_hd1 hH.sk)) (sg_tl1 hH.sk))
  · exact h.elim
theorem sg_o27 {n m0 : Int} {j k : Nat} (hj : (j % 4) + 1 < y.2.2.2.1) (hd : decode y.2.2.1 pc = .ok (.lstore_n (Fin.ofNat 4 j), 1)) {K : SgK} (hK : ∀ L2 S2 G2, K L2 S2 G2 → sg_Wp lo N d y (pc + 1) L2 S2 G2 Q) (h : sg_stx 1 (j % 4) L S G K) : sg_Wp lo N d y pc L S G Q := by
  unfold sg_stx at h
  split at h
  · rename_i v r
    obtain ⟨h0, h⟩ := h
    obtain ⟨t, x⟩ := v
    cases h0
    intro p l e R s m args below meth c D cy a H locs ls hC hH
    refine lv_lstore_n hC.1 hC.2.1 hd rfl hH.2.2.2.2.1 hj rfl (fun ls' hl => ?_)
    exact hK _ _ _ h p l e R s m args below meth c D cy a H locs ls' hC (hH.set (sg_set_has2 (v := (1, x)) rfl hl) (sg_set_cv hH.2.2.2.2.2.1 (sg_hd1 hH.sk)) (sg_tl1 hH.sk))
  · exact h.elim
theorem sg_o28 {n m0 : Int} {j k : Nat} (hj : j + 1 < y.2.2.2.1) (hd : decode y.2.2.1 pc = .ok (.lstore j, 2)) {K : SgK} (hK : ∀ L2 S2 G2, K L2 S2 G2 → sg_Wp lo N d y (pc + 2) L2 S2 G2 Q) (h : sg_stx 1 j L S G K) : sg_Wp lo N d y pc L S G Q := by
  unfold sg_stx at h
  split at h
  · rename_i v r
    obtain ⟨h0, h⟩ := h
    obtain ⟨t, x⟩ := v
    cases h0
    intro p l e R s m args below meth c D cy a H locs ls hC hH
    refine lv_lstore hC.1 hC.2.1 hd hH.2.2.2.2.1 hj rfl (fun ls' hl => ?_)
    exact hK _ _ _ h p l e R s m args below meth c D cy a H locs ls' hC (hH.set (sg_set_has2 (v := (1, x)) rfl hl) (sg_set_cv hH.2.2.2.2.2.1 (sg_hd1 hH.sk)) (sg_tl1 hH.sk))
  · exact h.elim
theorem sg_o31 {n m0 : Int} {j k : Nat} (hj : j < y.2.2.2.1) (hd : decode y.2.2.1 pc = .ok (.iinc j n, 3)) {K : SgK} (hK : ∀ L2 S2 G2, K L2 S2 G2 → sg_Wp lo N d y (pc + 3) L2 S2 G2 Q) (h : sg_inc j n L S G K) : sg_Wp lo N d y pc L S G Q := by
  unfold sg_inc at h
  split at h
  · rename_i v hg
    obtain ⟨h0, h⟩ := h
    obtain ⟨t, x⟩ := v
    cases h0
    intro p l e R s m args below meth c D cy a H locs ls hC hH
    obtain ⟨k, hk⟩ := List.getElem?_of_mem (sg_get_mem hg)
    refine lv_iinc (k := k) (x := Int32.ofInt x) (v := Int32.ofInt x + Int32.ofInt n) hC.1 hC.2.1 hd hH.2.2.2.2.1 (by rw [List.getElem?_map, hk]; rfl) rfl hj rfl (fun ls' hl => ?_)
    have e1 : sg_v a (0, sg_iadd x n) = .int (Int32.ofInt x + Int32.ofInt n) := by unfold sg_iadd; exact sg_vi a _
    rw [← e1] at hl
    exact hK _ _ _ h p l e R s m args below meth c D cy a H locs ls' hC (hH.set (sg_set_has1 (v := (0, sg_iadd x n)) (by show (0 : Nat) ≠ 1; decide) hl) (sg_set_cv hH.2.2.2.2.2.1 (sg_32_of _)) hH.sk)
  · exact h.elim
theorem sg_o7 {n m0 : Int} {j k : Nat} (hd : decode y.2.2.1 pc = .ok (.iconst n, 1)) {K : SgK} (hK : ∀ L2 S2 G2, K L2 S2 G2 → sg_Wp lo N d y (pc + 1) L2 S2 G2 Q) (h : sg_32 n ∧ K L ((0, n) :: S) G) : sg_Wp lo N d y pc L S G Q := by
  obtain ⟨h0, h⟩ := h
  intro p l e R s m args below meth c D cy a H locs ls hC hH
  exact lv_iconst hC.1 hC.2.1 hd rfl (hK _ _ _ h p l e R s m args below meth c D cy a H locs ls hC (hH.st (sg_cons (v := (0, n)) h0 hH.sk)))
theorem sg_o8 {n m0 : Int} {j k : Nat} (hd : decode y.2.2.1 pc = .ok (.bipush n, 2)) {K : SgK} (hK : ∀ L2 S2 G2, K L2 S2 G2 → sg_Wp lo N d y (pc + 2) L2 S2 G2 Q) (h : (Int8.ofInt n).toInt32 = Int32.ofInt n ∧ sg_32 n ∧ K L ((0, n) :: S) G) : sg_Wp lo N d y pc L S G Q := by
  obtain ⟨h1, h0, h⟩ := h
  intro p l e R s m args below meth c D cy a H locs ls hC hH
  exact lv_bipush hC.1 hC.2.1 hd h1 (hK _ _ _ h p l e R s m args below meth c D cy a H locs ls hC (hH.st (sg_cons (v := (0, n)) h0 hH.sk)))
theorem sg_o9 {n m0 : Int} {j k : Nat} (hd : decode y.2.2.1 pc = .ok (.sipush n, 3)) {K : SgK} (hK : ∀ L2 S2 G2, K L2 S2 G2 → sg_Wp lo N d y (pc + 3) L2 S2 G2 Q) (h : (Int16.ofInt n).toInt32 = Int32.ofInt n ∧ sg_32 n ∧ K L ((0, n) :: S) G) : sg_Wp lo N d y pc L S G Q := by
  obtain ⟨h1, h0, h⟩ := h
  intro p l e R s m args below meth c D cy a H locs ls hC hH
  exact lv_sipush hC.1 hC.2.1 hd h1 (hK _ _ _ h p l e R s m args below meth c D cy a H locs ls hC (hH.st (sg_cons (v := (0, n)) h0 hH.sk)))
theorem sg_o10 {n m0 : Int} {j k : Nat} (hd : decode y.2.2.1 pc = .ok (.lconst (Fin.ofNat 2 j), 1)) {K : SgK} (hK : ∀ L2 S2 G2, K L2 S2 G2 → sg_Wp lo N d y (pc + 1) L2 S2 G2 Q) (h : K L ((1, ((j % 2 : Nat) : Int)) :: S) G) : sg_Wp lo N d y pc L S G Q := by
  intro p l e R s m args below meth c D cy a H locs ls hC hH
  have h2 : j % 2 = 0 ∨ j % 2 = 1 := by omega
  have e1 : Int64.ofNat ((Fin.ofNat 2 j : Fin 2) : Nat) = Int64.ofInt ((j % 2 : Nat) : Int) := by
    show Int64.ofNat (j % 2) = _
    rcases h2 with z | z <;> rw [z] <;> decide
  have h6 : sg_64 ((j % 2 : Nat) : Int) := by rcases h2 with z | z <;> rw [z] <;> rfl
  exact lv_lconst hC.1 hC.2.1 hd e1 (hK _ _ _ h p l e R s m args below meth c D cy a H locs ls hC (hH.st (sg_cons (v := (1, ((j % 2 : Nat) : Int))) h6 hH.sk)))
theorem sg_o11 {n m0 : Int} {j k : Nat} (hm : (y.1, j, n) ∈ sg_ct) (hd : decode y.2.2.1 pc = .ok (.ldc j, 2)) {K : SgK} (hK : ∀ L2 S2 G2, K L2 S2 G2 → sg_Wp lo N d y (pc + 2) L2 S2 G2 Q) (h : sg_32 n ∧ K L ((0, n) :: S) G) : sg_Wp lo N d y pc L S G Q := by
  obtain ⟨h0, h⟩ := h
  intro p l e R s m args below meth c D cy a H locs ls hC hH
  exact lv_ldc hC.1 hC.2.1 hC.2.2.2.2.2.1 (hC.2.2.2.2.2.2.1 _ (sg_ct_ok _ hm)) hd (hK _ _ _ h p l e R s m args below meth c D cy a H locs ls hC (hH.st (sg_cons (v := (0, n)) h0 hH.sk)))
theorem sg_o14 {n m0 : Int} {j k : Nat} (hm : (y.1, j, n) ∈ sg_ct) (hd : decode y.2.2.1 pc = .ok (.ldc_w j, 3)) {K : SgK} (hK : ∀ L2 S2 G2, K L2 S2 G2 → sg_Wp lo N d y (pc + 3) L2 S2 G2 Q) (h : sg_32 n ∧ K L ((0, n) :: S) G) : sg_Wp lo N d y pc L S G Q := by
  obtain ⟨h0, h⟩ := h
  intro p l e R s m args below meth c D cy a H locs ls hC hH
  exact lv_ldcw hC.1 hC.2.1 hC.2.2.2.2.2.1 (hC.2.2.2.2.2.2.1 _ (sg_ct_ok _ hm)) hd (hK _ _ _ h p l e R s m args below meth c D cy a H locs ls hC (hH.st (sg_cons (v := (0, n)) h0 hH.sk)))
theorem sg_o12 {n m0 : Int} {j k : Nat} (hm : (y.1, j, n) ∈ sg_lt) (hd : decode y.2.2.1 pc = .ok (.ldc2_w j, 3)) {K : SgK} (hK : ∀ L2 S2 G2, K L2 S2 G2 → sg_Wp lo N d y (pc + 3) L2 S2 G2 Q) (h : sg_64 n ∧ K L ((1, n) :: S) G) : sg_Wp lo N d y pc L S G Q := by
  obtain ⟨h0, h⟩ := h
  intro p l e R s m args below meth c D cy a H locs ls hC hH
  exact lv_ldc2 hC.1 hC.2.1 hC.2.2.2.2.2.1 (hC.2.2.2.2.2.2.1 _ (sg_lt_ok _ hm)) hd (hK _ _ _ h p l e R s m args below meth c D cy a H locs ls hC (hH.st (sg_cons (v := (1, n)) h0 hH.sk)))
theorem sg_o13 {n m0 : Int} {j k : Nat} (hy : y.1 = 7) (hk : k < 6) (hj : j = sg_si.getD k 0) (hd : decode y.2.2.1 pc = .ok (.ldc j, 2)) {K : SgK} (hK : ∀ L2 S2 G2, K L2 S2 G2 → sg_Wp lo N d y (pc + 2) L2 S2 G2 Q) (h : K L ((3, (k : Int)) :: S) G) : sg_Wp lo N d y pc L S G Q := by
  intro p l e R s m args below meth c D cy a H locs ls hC hH
  have hX := hC.2.2.2.2.2.2.2.2.2.2
  have hZ := hX.1 k hk
  rw [← hj] at hZ
  have hown := hC.2.2.2.2.2.1
  rw [hy] at hown
  exact va_ldcS hC.1 hC.2.1 (show s.vm.findClass "SneezeGuard$Text" = some m.cls from hown) hZ hd (hK _ _ _ h p l e R s m args below meth c D cy a H locs ls hC (hH.st (sg_cons (v := (3, (k : Int))) trivial hH.sk)))
theorem sg_o57 {n m0 : Int} {j k : Nat} (hd : decode y.2.2.1 pc = .ok (.dup, 1)) {K : SgK} (hK : ∀ L2 S2 G2, K L2 S2 G2 → sg_Wp lo N d y (pc + 1) L2 S2 G2 Q) (h : sg_m57 lo N n m0 j k L S G K) : sg_Wp lo N d y pc L S G Q := by
  unfold sg_m57 at h
  split at h
  · obtain ⟨h0, h⟩ := h
    intro p l e R s m args below meth c D cy a H locs ls hC hH
    exact lv_dup hC.1 hC.2.1 hd (sg_cat h0) (hK _ _ _ h p l e R s m args below meth c D cy a H locs ls hC (hH.st (sg_cons (sg_hd1 hH.sk) hH.sk)))
  · exact h.elim
theorem sg_o58 {n m0 : Int} {j k : Nat} (hd : decode y.2.2.1 pc = .ok (.dup2, 1)) {K : SgK} (hK : ∀ L2 S2 G2, K L2 S2 G2 → sg_Wp lo N d y (pc + 1) L2 S2 G2 Q) (h : sg_m58 lo N n m0 j k L S G K) : sg_Wp lo N d y pc L S G Q := by
  unfold sg_m58 at h
  split at h
  · obtain ⟨⟨h0, h1⟩, h⟩ := h
    intro p l e R s m args below meth c D cy a H locs ls hC hH
    exact lv_dup2_11 hC.1 hC.2.1 hd (sg_cat h0) (sg_cat h1) (hK _ _ _ h p l e R s m args below meth c D cy a H locs ls hC (hH.st (sg_cons (sg_hd1 hH.sk) (sg_cons (sg_hd1 (sg_tl1 hH.sk)) hH.sk))))
  · exact h.elim
theorem sg_o59 {n m0 : Int} {j k : Nat} (hd : decode y.2.2.1 pc = .ok (.pop, 1)) {K : SgK} (hK : ∀ L2 S2 G2, K L2 S2 G2 → sg_Wp lo N d y (pc + 1) L2 S2 G2 Q) (h : sg_m59 lo N n m0 j k L S G K) : sg_Wp lo N d y pc L S G Q := by
  unfold sg_m59 at h
  split at h
  · obtain ⟨h0, h⟩ := h
    intro p l e R s m args below meth c D cy a H locs ls hC hH
    exact lv_pop hC.1 hC.2.1 hd (sg_cat h0) (hK _ _ _ h p l e R s m args below meth c D cy a H locs ls hC (hH.st (sg_tl1 hH.sk)))
  · exact h.elim
end SgS
end
section
/-! SOUNDNESS of the instructions that read and write cells; then of any straight instruction, and of a row of them -/
section SgT
variable {lo N d : Nat} {y : SgY} {pc : Nat} {L : SgL} {S : SgS} {G : SgM} {Q : Int → SgM → Prop}
def sg_fs (a : SgA) (ci : Nat) (c : Int) (G : SgM) : List Value := (List.range (sg_nf ci)).map (fun k => sg_fv a ci k c (G c (k : Int)))
theorem sg_e0 {cy : SgC} {a : SgA} {c m : Int} (h : sg_sh c = (0, m)) : sg_e cy a G c = .inr (m.toNat, sg_fs a m.toNat c G) := by unfold sg_e; rw [h]; rfl
theorem sg_e1 {cy : SgC} {a : SgA} {c n : Int} (h : sg_sh c = (1, n)) : sg_e cy a G c = .inl (cy.1, n.toNat, .inl (fun i => Int32.ofInt (G c (i : Int)))) := by unfold sg_e; rw [h]; rfl
theorem sg_e2 {cy : SgC} {a : SgA} {c n : Int} (h : sg_sh c = (2, n)) : sg_e cy a G c = .inl (cy.2.1, n.toNat, .inl (fun i => Int32.ofInt (G c (i : Int)))) := by unfold sg_e; rw [h]; rfl
theorem sg_e3 {cy : SgC} {a : SgA} {c n : Int} (h : sg_sh c = (3, n)) : sg_e cy a G c = .inl (cy.2.2.1, n.toNat, .inr (.inl (fun i => Int64.ofInt (G c (i : Int))))) := by unfold sg_e; rw [h]; rfl
theorem sg_e4 {cy : SgC} {a : SgA} {c n : Int} (h : sg_sh c = (4, n)) : sg_e cy a G c = .inl (cy.2.2.2, n.toNat, .inr (.inr (.inr (.inr (fun i => some (a.1 (sg_qb c + (i : Int)))))))) := by unfold sg_e; rw [h]; rfl
theorem sg_fs_at {a : SgA} {ci k : Nat} {c : Int} (hk : k < sg_nf ci) : (sg_fs a ci c G)[k]? = some (sg_fv a ci k c (G c (k : Int))) := by
  unfold sg_fs
  rw [List.getElem?_map, List.getElem?_range hk]
  rfl
theorem sg_fs_set {a : SgA} {ci k : Nat} {c v : Int} (hf : sg_ft ci k = 0) : sg_fs a ci c (sg_up G c (k : Int) v) = (sg_fs a ci c G).set k (.int (Int32.ofInt v)) := by
  apply List.ext_getElem?
  intro i
  rw [List.getElem?_set]
  by_cases hi : i < sg_nf ci
  · rw [sg_fs_at hi]
    by_cases e : k = i
    · subst e
      rw [if_pos rfl, if_pos (by unfold sg_fs; simpa using hi)]
      unfold sg_fv
      rw [if_pos hf, sg_up_at]
    · rw [if_neg e, sg_fs_at hi]
      have : sg_up G c (k : Int) v c (i : Int) = G c (i : Int) := by
        unfold sg_up
        rw [if_neg (fun q => e (by have := q.2; omega))]
      rw [this]
  · have h1 : (sg_fs a ci c (sg_up G c (k : Int) v))[i]? = none := List.getElem?_eq_none (by unfold sg_fs; simp; omega)
    have h2 : (sg_fs a ci c G)[i]? = none := List.getElem?_eq_none (by unfold sg_fs; simp; omega)
    rw [h1, h2]
    by_cases e : k = i
    · rw [if_pos e, if_neg (by unfold sg_fs; simp; omega)]
    · rw [if_neg e]
theorem sg_cl {i : Int} (h : sg_32 i) (h0 : 0 ≤ i) : (((Int32.ofInt i).toNatClampNeg : Nat) : Int) = i := by
  have e : (Int32.ofInt i).toNatClampNeg = (Int32.ofInt i).toInt.toNat := rfl
  have h2 : (Int32.ofInt i).toInt = i := h
  rw [e, h2]
  omega
theorem sg_vpin {i n : Int} (h : sg_32 i) (h0 : 0 ≤ i ∧ i < n) : vp_in (Int32.ofInt i) n.toNat := by
  have h2 : (Int32.ofInt i).toInt = i := h
  refine vp_in_iff.mpr ⟨by rw [h2]; exact h0.1, by rw [h2]; omega⟩
theorem sg_upI {c i v : Int} (h : sg_32 i) (h0 : 0 ≤ i) : (fun j : Nat => Int32.ofInt (sg_up G c i v c (j : Int))) = upd (fun j : Nat => Int32.ofInt (G c (j : Int))) (Int32.ofInt i).toNatClampNeg (Int32.ofInt v) := by
  have e := sg_cl h h0
  funext j
  unfold upd sg_up
  by_cases hj : j = (Int32.ofInt i).toNatClampNeg
  · rw [if_pos hj, if_pos ⟨rfl, by rw [hj]; exact e⟩]
  · rw [if_neg hj, if_neg (fun q => hj (by have := q.2; omega))]
theorem sg_upJ {c i v : Int} (h : sg_32 i) (h0 : 0 ≤ i) : (fun j : Nat => Int64.ofInt (sg_up G c i v c (j : Int))) = vp_updL (fun j : Nat => Int64.ofInt (G c (j : Int))) (Int32.ofInt i).toNatClampNeg (Int64.ofInt v) := by
  have e := sg_cl h h0
  funext j
  unfold vp_updL sg_up
  by_cases hj : j = (Int32.ofInt i).toNatClampNeg
  · rw [if_pos hj, if_pos ⟨rfl, by rw [hj]; exact e⟩]
  · rw [if_neg hj, if_neg (fun q => hj (by have := q.2; omega))]
theorem sg_Hx.mem {D : va_G} {cy : SgC} {a : SgA} {s : State} {H H1 : Heap} {locs locs1 : List Loc} {ls : Array Slot} {G' : SgM} {S' : SgS} (h : sg_Hx lo N y D cy a s G H locs ls L S) (hP : va_P D vwCl (sg_W cy a G' lo N) H1) (hS : va_S (sg_A lo N a) s.heap H1 locs1) (hc : sg_can G') (hs : ∀ v ∈ S', sg_cv v) : sg_Hx lo N y D cy a s G' H1 locs1 ls L S' :=
  ⟨hP, sg_W_D h.2.1, hS, hc, h.2.2.2.2.1, h.2.2.2.2.2.1, hs⟩
theorem sg_can32 {c i : Int} (h : sg_can G) (hs : (sg_sh c).1 ≠ 3) : sg_32 (G c i) := by
  have := h c i
  rw [if_neg hs] at this
  exact this
theorem sg_can64 {c i : Int} (h : sg_can G) (hs : (sg_sh c).1 = 3) : sg_64 (G c i) := by
  have := h c i
  rw [if_pos hs] at this
  exact this

theorem sg_o15 {n m0 : Int} {j k : Nat} (hf : sg_FL y.1 j m0.toNat k) (ht : sg_ft m0.toNat k = 0) (hd : decode y.2.2.1 pc = .ok (.getfield j, 3)) {K : SgK} (hK : ∀ L2 S2 G2, K L2 S2 G2 → sg_Wp lo N d y (pc + 3) L2 S2 G2 Q) (h : sg_m15 lo N n m0 j k L S G K) : sg_Wp lo N d y pc L S G Q := by
  unfold sg_m15 at h
  split at h
  · obtain ⟨⟨hin, hsh⟩, h⟩ := h
    intro p l e R s m args below meth c D cy a H locs ls hC hH
    rename_i c1 r
    obtain ⟨C, T, NN, hcl, hnf, hk, hws, hlk⟩ := hf
    have hts := hC.2.2.2.2.2.2.1
    have hw : (sg_W cy a G lo N)[c1.toNat - lo]? = some (a.1 c1, .inr (m0.toNat, sg_fs a m0.toNat c1 G)) := by rw [sg_W_at hin, sg_e0 hsh]
    have hv : (sg_fs a m0.toNat c1 G)[k]? = some (sg_v a (0, G c1 (k : Int))) := by
      rw [sg_fs_at (by rw [hnf]; exact hk)]
      unfold sg_fv
      rw [if_pos ht]
      rfl
    exact va_get hC.1 hC.2.1 hts hws hC.2.2.2.2.2.1 hC.2.2.2.2.2.2.2.2.2.1 hH.1 (c1.toNat - lo) hw hcl k hk (hts _ hlk) (fun _ z => z) hv hd (hK _ _ _ h p l e R s m args below meth c D cy a H locs ls hC (hH.st (sg_cons (v := (0, G c1 (k : Int))) (sg_can32 hH.2.2.2.1 (by rw [hsh]; simp)) (sg_tl1 hH.sk))))
  · exact h.elim
theorem sg_o65 {n m0 : Int} {j k : Nat} (hf : sg_FL y.1 j m0.toNat k) (ht : ¬ sg_ft m0.toNat k = 0) (hd : decode y.2.2.1 pc = .ok (.getfield j, 3)) {K : SgK} (hK : ∀ L2 S2 G2, K L2 S2 G2 → sg_Wp lo N d y (pc + 3) L2 S2 G2 Q) (h : sg_m65 lo N n m0 j k L S G K) : sg_Wp lo N d y pc L S G Q := by
  unfold sg_m65 at h
  split at h
  · obtain ⟨⟨hin, hsh⟩, hr, h⟩ := h
    intro p l e R s m args below meth c D cy a H locs ls hC hH
    rename_i c1 r
    obtain ⟨C, T, NN, hcl, hnf, hk, hws, hlk⟩ := hf
    have hts := hC.2.2.2.2.2.2.1
    have hw : (sg_W cy a G lo N)[c1.toNat - lo]? = some (a.1 c1, .inr (m0.toNat, sg_fs a m0.toNat c1 G)) := by rw [sg_W_at hin, sg_e0 hsh]
    have hv : (sg_fs a m0.toNat c1 G)[k]? = some (sg_v a (2, n)) := by
      rw [sg_fs_at (by rw [hnf]; exact hk)]
      unfold sg_fv
      rw [if_neg ht, hr]
      rfl
    exact va_get hC.1 hC.2.1 hts hws hC.2.2.2.2.2.1 hC.2.2.2.2.2.2.2.2.2.1 hH.1 (c1.toNat - lo) hw hcl k hk (hts _ hlk) (fun _ z => z) hv hd (hK _ _ _ h p l e R s m args below meth c D cy a H locs ls hC (hH.st (sg_cons (v := (2, n)) trivial (sg_tl1 hH.sk))))
  · exact h.elim
theorem sg_o16 {n m0 : Int} {j k : Nat} (hf : sg_FL y.1 j m0.toNat k) (hp : sg_FP m0.toNat k) (hd : decode y.2.2.1 pc = .ok (.putfield j, 3)) {K : SgK} (hK : ∀ L2 S2 G2, K L2 S2 G2 → sg_Wp lo N d y (pc + 3) L2 S2 G2 Q) (h : sg_m16 lo N n m0 j k L S G K) : sg_Wp lo N d y pc L S G Q := by
  unfold sg_m16 at h
  split at h
  · obtain ⟨⟨hin, hsh⟩, h⟩ := h
    intro p l e R s m args below meth c D cy a H locs ls hC hH
    rename_i v1 c1 r
    obtain ⟨C, T, NN, hcl, hnf, hk, hws, hlk⟩ := hf
    obtain ⟨C', T', NN', ty0, hcl', hty, hnm, hfin, hpd, hft⟩ := hp
    cases hcl.symm.trans hcl'
    have hts := hC.2.2.2.2.2.2.1
    have hw : (sg_W cy a G lo N)[c1.toNat - lo]? = some (a.1 c1, .inr (m0.toNat, sg_fs a m0.toNat c1 G)) := by rw [sg_W_at hin, sg_e0 hsh]
    refine va_put (ty := .int) (v := .int (Int32.ofInt v1)) hC.1 hC.2.1 hts hws ty0 hty hnm hC.2.2.2.2.2.1 hC.2.2.2.2.2.2.2.2.2.1 hH.1 hH.2.1 hH.2.2.1 (c1.toNat - lo) hw hcl k hk (hts _ hlk) (fun _ z => z) hfin hpd rfl rfl (by unfold sg_fs; simp; omega) hd (fun H1 locs1 hP1 _ hS1 => ?_)
    have e1 : (a.1 c1, (Sum.inr (m0.toNat, (sg_fs a m0.toNat c1 G).set k (.int (Int32.ofInt v1))) : va_E)) = (a.1 c1, sg_e cy a (sg_up G c1 (k : Int) v1) c1) := by rw [sg_e0 hsh, sg_fs_set hft]
    rw [e1, sg_W_set hin (fun c' hc' => sg_e_off (sg_up_off hc'))] at hP1
    exact hK _ _ _ h p l e R s m args below meth c D cy a H1 locs1 ls hC (hH.mem hP1 hS1 (sg_up_can hH.2.2.2.1 (by rw [hsh, if_neg (by simp)]; exact sg_hd1 hH.sk)) (sg_tl1 (sg_tl1 hH.sk)))
  · exact h.elim
theorem sg_o17 {n m0 : Int} {j k : Nat} (hd : decode y.2.2.1 pc = .ok (.iaload, 1)) {K : SgK} (hK : ∀ L2 S2 G2, K L2 S2 G2 → sg_Wp lo N d y (pc + 1) L2 S2 G2 Q) (h : sg_m17 lo N n m0 j k L S G K) : sg_Wp lo N d y pc L S G Q := by
  unfold sg_m17 at h
  split at h
  · obtain ⟨⟨hin, hsh⟩, hb, h⟩ := h
    intro p l e R s m args below meth c D cy a H locs ls hC hH
    rename_i i1 c1 r
    have hi : sg_32 i1 := sg_hd1 hH.sk
    have hw := sg_W_at (cy := cy) (a := a) (G := G) hin
    rw [sg_e1 hsh] at hw
    have k2 := hK _ _ _ h p l e R s m args below meth c D cy a H locs ls hC (hH.st (sg_cons (v := (0, G c1 i1)) (sg_can32 hH.2.2.2.1 (by rw [hsh]; simp)) (sg_tl1 (sg_tl1 hH.sk))))
    refine va_iald hC.1 hC.2.1 hC.2.2.2.2.2.2.2.2.2.1 hH.1 (c1.toNat - lo) 0 hw rfl (sg_vpin hi hb) hd ?_
    rw [sg_cl hi hb.1]
    exact k2
  · exact h.elim
theorem sg_o19 {n m0 : Int} {j k : Nat} (hd : decode y.2.2.1 pc = .ok (.baload, 1)) {K : SgK} (hK : ∀ L2 S2 G2, K L2 S2 G2 → sg_Wp lo N d y (pc + 1) L2 S2 G2 Q) (h : sg_m19 lo N n m0 j k L S G K) : sg_Wp lo N d y pc L S G Q := by
  unfold sg_m19 at h
  split at h
  · obtain ⟨⟨hin, hsh⟩, hb, h⟩ := h
    intro p l e R s m args below meth c D cy a H locs ls hC hH
    rename_i i1 c1 r
    have hi : sg_32 i1 := sg_hd1 hH.sk
    have hw := sg_W_at (cy := cy) (a := a) (G := G) hin
    rw [sg_e2 hsh] at hw
    have k2 := hK _ _ _ h p l e R s m args below meth c D cy a H locs ls hC (hH.st (sg_cons (v := (0, G c1 i1)) (sg_can32 hH.2.2.2.1 (by rw [hsh]; simp)) (sg_tl1 (sg_tl1 hH.sk))))
    refine va_zald hC.1 hC.2.1 hC.2.2.2.2.2.2.2.2.2.1 hH.1 (c1.toNat - lo) 1 hw rfl (sg_vpin hi hb) hd ?_
    rw [sg_cl hi hb.1]
    exact k2
  · exact h.elim
theorem sg_o21 {n m0 : Int} {j k : Nat} (hd : decode y.2.2.1 pc = .ok (.laload, 1)) {K : SgK} (hK : ∀ L2 S2 G2, K L2 S2 G2 → sg_Wp lo N d y (pc + 1) L2 S2 G2 Q) (h : sg_m21 lo N n m0 j k L S G K) : sg_Wp lo N d y pc L S G Q := by
  unfold sg_m21 at h
  split at h
  · obtain ⟨⟨hin, hsh⟩, hb, h⟩ := h
    intro p l e R s m args below meth c D cy a H locs ls hC hH
    rename_i i1 c1 r
    have hi : sg_32 i1 := sg_hd1 hH.sk
    have hw := sg_W_at (cy := cy) (a := a) (G := G) hin
    rw [sg_e3 hsh] at hw
    have k2 := hK _ _ _ h p l e R s m args below meth c D cy a H locs ls hC (hH.st (sg_cons (v := (1, G c1 i1)) (sg_can64 hH.2.2.2.1 (by rw [hsh])) (sg_tl1 (sg_tl1 hH.sk))))
    refine va_lald hC.1 hC.2.1 hC.2.2.2.2.2.2.2.2.2.1 hH.1 (c1.toNat - lo) 2 hw rfl (sg_vpin hi hb) hd ?_
    rw [sg_cl hi hb.1]
    exact k2
  · exact h.elim
theorem sg_o18 {n m0 : Int} {j k : Nat} (hd : decode y.2.2.1 pc = .ok (.iastore, 1)) {K : SgK} (hK : ∀ L2 S2 G2, K L2 S2 G2 → sg_Wp lo N d y (pc + 1) L2 S2 G2 Q) (h : sg_m18 lo N n m0 j k L S G K) : sg_Wp lo N d y pc L S G Q := by
  unfold sg_m18 at h
  split at h
  · obtain ⟨⟨hin, hsh⟩, hb, h⟩ := h
    intro p l e R s m args below meth c D cy a H locs ls hC hH
    rename_i v1 i1 c1 r
    have hi : sg_32 i1 := sg_hd1 (sg_tl1 hH.sk)
    have hw := sg_W_at (cy := cy) (a := a) (G := G) hin
    rw [sg_e1 hsh] at hw
    refine va_iast hC.1 hC.2.1 hC.2.2.2.2.2.2.2.2.2.1 hH.1 hH.2.1 hH.2.2.1 (c1.toNat - lo) 0 hw rfl (sg_vpin hi hb) hd (fun H1 locs1 hP1 _ hS1 => ?_)
    rw [← sg_upI hi hb.1, ← sg_e1 (G := sg_up G c1 i1 v1) hsh, sg_W_set hin (fun c' hc' => sg_e_off (sg_up_off hc'))] at hP1
    exact hK _ _ _ h p l e R s m args below meth c D cy a H1 locs1 ls hC (hH.mem hP1 hS1 (sg_up_can hH.2.2.2.1 (by rw [hsh]; exact sg_hd1 hH.sk)) (sg_tl1 (sg_tl1 (sg_tl1 hH.sk))))
  · exact h.elim
theorem sg_o22 {n m0 : Int} {j k : Nat} (hd : decode y.2.2.1 pc = .ok (.lastore, 1)) {K : SgK} (hK : ∀ L2 S2 G2, K L2 S2 G2 → sg_Wp lo N d y (pc + 1) L2 S2 G2 Q) (h : sg_m22 lo N n m0 j k L S G K) : sg_Wp lo N d y pc L S G Q := by
  unfold sg_m22 at h
  split at h
  · obtain ⟨⟨hin, hsh⟩, hb, h⟩ := h
    intro p l e R s m args below meth c D cy a H locs ls hC hH
    rename_i v1 i1 c1 r
    have hi : sg_32 i1 := sg_hd1 (sg_tl1 hH.sk)
    have hw := sg_W_at (cy := cy) (a := a) (G := G) hin
    rw [sg_e3 hsh] at hw
    refine va_last hC.1 hC.2.1 hC.2.2.2.2.2.2.2.2.2.1 hH.1 hH.2.1 hH.2.2.1 (c1.toNat - lo) 2 hw rfl (sg_vpin hi hb) hd (fun H1 locs1 hP1 _ hS1 => ?_)
    rw [← sg_upJ hi hb.1, ← sg_e3 (G := sg_up G c1 i1 v1) hsh, sg_W_set hin (fun c' hc' => sg_e_off (sg_up_off hc'))] at hP1
    exact hK _ _ _ h p l e R s m args below meth c D cy a H1 locs1 ls hC (hH.mem hP1 hS1 (sg_up_can hH.2.2.2.1 (by rw [hsh]; exact sg_hd1 hH.sk)) (sg_tl1 (sg_tl1 (sg_tl1 hH.sk))))
  · exact h.elim
theorem sg_o20 {n m0 : Int} {j k : Nat} (hd : decode y.2.2.1 pc = .ok (.bastore, 1)) {K : SgK} (hK : ∀ L2 S2 G2, K L2 S2 G2 → sg_Wp lo N d y (pc + 1) L2 S2 G2 Q) (h : sg_m20 lo N n m0 j k L S G K) : sg_Wp lo N d y pc L S G Q := by
  unfold sg_m20 at h
  split at h
  · obtain ⟨⟨hin, hsh⟩, hb, h01, h⟩ := h
    intro p l e R s m args below meth c D cy a H locs ls hC hH
    rename_i v1 i1 c1 r
    have hi : sg_32 i1 := sg_hd1 (sg_tl1 hH.sk)
    have hw := sg_W_at (cy := cy) (a := a) (G := G) hin
    rw [sg_e2 hsh] at hw
    have hz : vp_nar .boolean (Int32.ofInt v1) = Int32.ofInt v1 := by rcases h01 with z | z <;> rw [z] <;> rfl
    refine va_zast hC.1 hC.2.1 hC.2.2.2.2.2.2.2.2.2.1 hH.1 hH.2.1 hH.2.2.1 (c1.toNat - lo) 1 hw rfl (sg_vpin hi hb) hd (fun H1 locs1 hP1 _ hS1 => ?_)
    rw [hz, ← sg_upI hi hb.1, ← sg_e2 (G := sg_up G c1 i1 v1) hsh, sg_W_set hin (fun c' hc' => sg_e_off (sg_up_off hc'))] at hP1
    exact hK _ _ _ h p l e R s m args below meth c D cy a H1 locs1 ls hC (hH.mem hP1 hS1 (sg_up_can hH.2.2.2.1 (by rw [hsh]; exact sg_hd1 hH.sk)) (sg_tl1 (sg_tl1 (sg_tl1 hH.sk))))
  · exact h.elim
theorem sg_o23 {n m0 : Int} {j k : Nat} (hd : decode y.2.2.1 pc = .ok (.aaload, 1)) {K : SgK} (hK : ∀ L2 S2 G2, K L2 S2 G2 → sg_Wp lo N d y (pc + 1) L2 S2 G2 Q) (h : sg_m23 lo N n m0 j k L S G K) : sg_Wp lo N d y pc L S G Q := by
  unfold sg_m23 at h
  split at h
  · obtain ⟨⟨⟨hin, hsh⟩, hq⟩, hb, h⟩ := h
    intro p l e R s m args below meth c D cy a H locs ls hC hH
    rename_i i1 c1 r
    have hi : sg_32 i1 := sg_hd1 hH.sk
    have hw := sg_W_at (cy := cy) (a := a) (G := G) hin
    rw [sg_e4 hsh] at hw
    have hcell := hH.1 _ _ hw
    have hcell : H[a.1 c1]? = some (vp_cell cy.2.2.2 (n.toNat, .inr (.inr (.inr (.inr (fun i => some (a.1 (sg_qb c1 + (i : Int))))))))) := hcell
    rw [vp_cell_q] at hcell
    have hlt : (Int32.ofInt i1).toNatClampNeg < n.toNat := by have := sg_cl hi hb.1; omega
    have hv : (arrV cy.2.2.2 n.toNat (fun j => va_rf (some (a.1 (sg_qb c1 + (j : Int)))))).slots[(Int32.ofInt i1).toNatClampNeg]? = some (sg_v a (2, m0 + i1)) := by
      rw [arrV_read _ _ hlt, sg_cl hi hb.1, hq]
      rfl
    exact W.aald hC.1 hC.2.1 hcell ((hC.2.2.2.2.2.2.2.2.2.1.2 3 _ rfl).1 _ _) rfl (fun z => by cases z) (by rw [arrV_size]; exact sg_vpin hi hb) hv rfl rfl hd (hK _ _ _ h p l e R s m args below meth c D cy a H locs ls hC (hH.st (sg_cons (v := (2, m0 + i1)) trivial (sg_tl1 (sg_tl1 hH.sk)))))
  · exact h.elim
theorem sg_o24 {n m0 : Int} {j k : Nat} (hd : decode y.2.2.1 pc = .ok (.arraylength, 1)) {K : SgK} (hK : ∀ L2 S2 G2, K L2 S2 G2 → sg_Wp lo N d y (pc + 1) L2 S2 G2 Q) (h : sg_m24 lo N n m0 j k L S G K) : sg_Wp lo N d y pc L S G Q := by
  unfold sg_m24 at h
  split at h
  · obtain ⟨⟨hk, hn0, hn1⟩, h⟩ := h
    intro p l e R s m args below meth c D cy a H locs ls hC hH
    rename_i c1 r
    have hn : sg_32 n := Int32.toInt_ofInt_of_le (by omega) (by omega)
    have hv : Int32.ofNat n.toNat = Int32.ofInt n := by rw [← Int32.ofInt_eq_ofNat, Int.toNat_of_nonneg hn0]
    have k2 := hK _ _ _ h p l e R s m args below meth c D cy a H locs ls hC (hH.st (sg_cons (v := (0, n)) hn (sg_tl1 hH.sk)))
    rcases hk with ⟨hin, hsh⟩ | ⟨hin, hsh⟩
    · have hw := sg_W_at (cy := cy) (a := a) (G := G) hin
      rw [sg_e1 hsh] at hw
      exact va_alen (ty := .int) hC.1 hC.2.1 hC.2.2.2.2.2.2.2.2.2.1 hH.1 (c1.toNat - lo) 0 hw rfl hv hd k2
    · have hw := sg_W_at (cy := cy) (a := a) (G := G) hin
      rw [sg_e3 hsh] at hw
      exact va_alen (ty := .long) hC.1 hC.2.1 hC.2.2.2.2.2.2.2.2.2.1 hH.1 (c1.toNat - lo) 2 hw rfl hv hd k2
  · exact h.elim
theorem sg_o60 {n m0 : Int} {j k : Nat} (hy : y.1 = 20) (hj : j = sg_gsc) (hd : decode y.2.2.1 pc = .ok (.getstatic j, 3)) {K : SgK} (hK : ∀ L2 S2 G2, K L2 S2 G2 → sg_Wp lo N d y (pc + 3) L2 S2 G2 Q) (h : K L ((0, 1) :: S) G) : sg_Wp lo N d y pc L S G Q := by
  intro p l e R s m args below meth c D cy a H locs ls hC hH
  have hown := hC.2.2.2.2.2.1
  have hlk := hC.2.2.2.2.2.2.1 _ sg_gsc_ok
  rw [← hj] at hlk
  exact va_gets hC.1 hC.2.1 hC.2.2.2.2.2.2.2.2.2.2.2.2.1 hH.2.2.1 (show s.vm.findClass (sg_cn 20) = some m.cls from hy ▸ hown) hlk (fun _ z => z) hd (hK _ _ _ h p l e R s m args below meth c D cy a H locs ls hC (hH.st (sg_cons (v := (0, 1)) (show sg_32 1 from rfl) hH.sk)))
theorem sg_o61 {n m0 : Int} {j k : Nat} (hy : y.1 = 8) (hj : j = sg_gsl) (hd : decode y.2.2.1 pc = .ok (.getstatic j, 3)) {K : SgK} (hK : ∀ L2 S2 G2, K L2 S2 G2 → sg_Wp lo N d y (pc + 3) L2 S2 G2 Q) (h : K L ((5, 0) :: S) G) : sg_Wp lo N d y pc L S G Q := by
  intro p l e R s m args below meth c D cy a H locs ls hC hH
  have hown := hC.2.2.2.2.2.1
  have hlk := hC.2.2.2.2.2.2.1 _ sg_gsl_ok
  rw [← hj] at hlk
  exact va_gets hC.1 hC.2.1 hC.2.2.2.2.2.2.2.2.2.2.2.2.2.1 hH.2.2.1 (show s.vm.findClass (sg_cn 8) = some m.cls from hy ▸ hown) hlk (fun _ z => z) hd (hK _ _ _ h p l e R s m args below meth c D cy a H locs ls hC (hH.st (sg_cons (v := (5, 0)) trivial hH.sk)))
theorem sg_o62 {n m0 : Int} {j k : Nat} (hy : y.1 = 20) (hj : j = sg_gfv) (hd : decode y.2.2.1 pc = .ok (.getfield j, 3)) {K : SgK} (hK : ∀ L2 S2 G2, K L2 S2 G2 → sg_Wp lo N d y (pc + 3) L2 S2 G2 Q) (h : sg_m62 lo N n m0 j k L S G K) : sg_Wp lo N d y pc L S G Q := by
  unfold sg_m62 at h
  split at h
  · obtain ⟨hb, h⟩ := h
    intro p l e R s m args below meth c D cy a H locs ls hC hH
    rename_i i1 r
    have hown := hC.2.2.2.2.2.1
    have hlk := hC.2.2.2.2.2.2.1 _ sg_gfv_ok
    rw [← hj] at hlk
    exact vk_getf hC.1 hC.2.1 (hC.2.2.2.2.2.2.2.2.2.2.2.1.1 i1.toNat (by omega)).2.2.1 hH.2.2.1 (show s.vm.findClass (sg_cn 20) = some m.cls from hy ▸ hown) hlk (fun _ z => z) hd (hK _ _ _ h p l e R s m args below meth c D cy a H locs ls hC (hH.st (sg_cons (v := (4, i1)) trivial (sg_tl1 hH.sk))))
  · exact h.elim
theorem sg_o63 {n m0 : Int} {j k : Nat} (hy : y.1 = 20) (hj : j = sg_gfc) (hd : decode y.2.2.1 pc = .ok (.getfield j, 3)) {K : SgK} (hK : ∀ L2 S2 G2, K L2 S2 G2 → sg_Wp lo N d y (pc + 3) L2 S2 G2 Q) (h : sg_m63 lo N n m0 j k L S G K) : sg_Wp lo N d y pc L S G Q := by
  unfold sg_m63 at h
  split at h
  · obtain ⟨hb, h⟩ := h
    intro p l e R s m args below meth c D cy a H locs ls hC hH
    rename_i i1 r
    have hown := hC.2.2.2.2.2.1
    have hlk := hC.2.2.2.2.2.2.1 _ sg_gfc_ok
    rw [← hj] at hlk
    exact vk_getf hC.1 hC.2.1 (hC.2.2.2.2.2.2.2.2.2.2.2.1.1 i1.toNat (by omega)).2.1 hH.2.2.1 (show s.vm.findClass (sg_cn 20) = some m.cls from hy ▸ hown) hlk (fun _ z => z) hd (hK _ _ _ h p l e R s m args below meth c D cy a H locs ls hC (hH.st (sg_cons (v := (0, 0)) (show sg_32 0 from rfl) (sg_tl1 hH.sk))))
  · exact h.elim
theorem sg_o66 {n m0 : Int} {j k : Nat} (hd : decode y.2.2.1 pc = .ok (.baload, 1)) {K : SgK} (hK : ∀ L2 S2 G2, K L2 S2 G2 → sg_Wp lo N d y (pc + 1) L2 S2 G2 Q) (h : sg_m66 lo N n m0 j k L S G K) : sg_Wp lo N d y pc L S G Q := by
  unfold sg_m66 at h
  split at h
  · obtain ⟨⟨hb, hi⟩, h⟩ := h
    intro p l e R s m args below meth c D cy a H locs ls hC hH
    rename_i i1 s1 r
    have h32 : sg_32 i1 := sg_hd1 hH.sk
    have hN : vp_in (Int32.ofInt i1) (sg_len.getD s1.toNat 0) := by
      have := sg_vpin h32 hi
      unfold sg_ll at this
      rw [Int.toNat_natCast] at this
      exact this
    have hv : Value.int ((sg_byt.getD s1.toNat []).getD (Int32.ofInt i1).toNatClampNeg 0) = sg_v a (0, sg_lb s1 i1) := by
      have e : (Int32.ofInt i1).toNatClampNeg = i1.toNat := by have := sg_cl h32 hi.1; omega
      unfold sg_lb
      rw [sg_vi, e]
    exact va_tb hC.1 hC.2.1 (hC.2.2.2.2.2.2.2.2.2.2.2.1.1 s1.toNat (by omega)).2.2.2 hH.2.2.1 hN hv hd (hK _ _ _ h p l e R s m args below meth c D cy a H locs ls hC (hH.st (sg_cons (v := (0, sg_lb s1 i1)) (sg_32_of _) (sg_tl1 (sg_tl1 hH.sk)))))
  · exact h.elim
theorem sg_o67 {n m0 : Int} {j k : Nat} (hd : decode y.2.2.1 pc = .ok (.arraylength, 1)) {K : SgK} (hK : ∀ L2 S2 G2, K L2 S2 G2 → sg_Wp lo N d y (pc + 1) L2 S2 G2 Q) (h : sg_m67 lo N n m0 j k L S G K) : sg_Wp lo N d y pc L S G Q := by
  unfold sg_m67 at h
  split at h
  · obtain ⟨hb, h⟩ := h
    intro p l e R s m args below meth c D cy a H locs ls hC hH
    rename_i s1 r
    have hl : ∀ i : Nat, i < 6 → sg_len.getD i 0 < 100 := by decide
    have hl := hl s1.toNat (by omega)
    have e1 : Int32.ofNat (sg_len.getD s1.toNat 0) = Int32.ofInt (sg_ll s1) := by unfold sg_ll; rw [Int32.ofInt_eq_ofNat]
    have h32 : sg_32 (sg_ll s1) := Int32.toInt_ofInt_of_le (by unfold sg_ll; omega) (by unfold sg_ll; omega)
    exact va_tlen hC.1 hC.2.1 (hC.2.2.2.2.2.2.2.2.2.2.2.1.1 s1.toNat (by omega)).2.2.2 hH.2.2.1 e1 hd (hK _ _ _ h p l e R s m args below meth c D cy a H locs ls hC (hH.st (sg_cons (v := (0, sg_ll s1)) h32 (sg_tl1 hH.sk))))
  · exact h.elim
theorem sg_o68 {n m0 : Int} {j k : Nat} (hd : decode y.2.2.1 pc = .ok (.iaload, 1)) {K : SgK} (hK : ∀ L2 S2 G2, K L2 S2 G2 → sg_Wp lo N d y (pc + 1) L2 S2 G2 Q) (h : sg_m68 lo N n m0 j k L S G K) : sg_Wp lo N d y pc L S G Q := by
  unfold sg_m68 at h
  split at h
  · obtain ⟨hi, h⟩ := h
    intro p l e R s m args below meth c D cy a H locs ls hC hH
    rename_i i1 s1 r
    have h32 : sg_32 i1 := sg_hd1 hH.sk
    have hv : Value.int (sg_loud (Int32.ofInt i1).toNatClampNeg) = sg_v a (0, (sg_loud i1.toNat).toInt) := by
      have e : (Int32.ofInt i1).toNatClampNeg = i1.toNat := by have := sg_cl h32 hi.1; omega
      rw [sg_vi, e]
    exact va_ti hC.1 hC.2.1 hC.2.2.2.2.2.2.2.2.2.2.2.2.2.2.1 hH.2.2.1 (sg_vpin (n := 3) h32 hi) hv hd (hK _ _ _ h p l e R s m args below meth c D cy a H locs ls hC (hH.st (sg_cons (v := (0, (sg_loud i1.toNat).toInt)) (sg_32_of _) (sg_tl1 (sg_tl1 hH.sk)))))
  · exact h.elim
/-- any straight instruction -/
theorem sg_one (i : SgI) (hd : decode y.2.2.1 pc = .ok (sg_ins i)) (hk : sg_lk y.1 y.2.2.2.1 i = true) {K : SgK} (hK : ∀ L2 S2 G2, K L2 S2 G2 → sg_Wp lo N d y (pc + (sg_ins i).2) L2 S2 G2 Q) (h : sg_st lo N i L S G K) : sg_Wp lo N d y pc L S G Q := by
  obtain ⟨op, n, m, j, k⟩ := i
  match op, hd, hk, hK, h with
  | 1, hd, hk, hK, h => exact sg_o1 (n := n) (m0 := m) (j := j) (k := k)  hd hK h
  | 2, hd, hk, hK, h => exact sg_o2 (n := n) (m0 := m) (j := j) (k := k)  hd hK h
  | 3, hd, hk, hK, h => exact sg_o3 (n := n) (m0 := m) (j := j) (k := k)  hd hK h
  | 4, hd, hk, hK, h => exact sg_o4 (n := n) (m0 := m) (j := j) (k := k)  hd hK h
  | 5, hd, hk, hK, h => exact sg_o5 (n := n) (m0 := m) (j := j) (k := k)  hd hK h
  | 6, hd, hk, hK, h => exact sg_o6 (n := n) (m0 := m) (j := j) (k := k)  hd hK h
  | 7, hd, hk, hK, h => exact sg_o7 (n := n) (m0 := m) (j := j) (k := k)  hd hK h
  | 8, hd, hk, hK, h => exact sg_o8 (n := n) (m0 := m) (j := j) (k := k)  hd hK h
  | 9, hd, hk, hK, h => exact sg_o9 (n := n) (m0 := m) (j := j) (k := k)  hd hK h
  | 10, hd, hk, hK, h => exact sg_o10 (n := n) (m0 := m) (j := j) (k := k)  hd hK h
  | 11, hd, hk, hK, h => exact sg_o11 (n := n) (m0 := m) (j := j) (k := k) (of_decide_eq_true hk) hd hK h
  | 12, hd, hk, hK, h => exact sg_o12 (n := n) (m0 := m) (j := j) (k := k) (of_decide_eq_true hk) hd hK h
  | 13, hd, hk, hK, h => have z1 := Bool.and_eq_true_iff.mp hk; have z2 := Bool.and_eq_true_iff.mp z1.2; exact sg_o13 (n := n) (m0 := m) (j := j) (k := k) (of_decide_eq_true z1.1) (of_decide_eq_true z2.1) (of_decide_eq_true z2.2) hd hK h
  | 14, hd, hk, hK, h => exact sg_o14 (n := n) (m0 := m) (j := j) (k := k) (of_decide_eq_true hk) hd hK h
  | 15, hd, hk, hK, h => have z1 := Bool.and_eq_true_iff.mp hk; exact sg_o15 (n := n) (m0 := m) (j := j) (k := k) (sg_fl_ok _ (of_decide_eq_true z1.1)) (of_decide_eq_true z1.2) hd hK h
  | 65, hd, hk, hK, h => have z1 := Bool.and_eq_true_iff.mp hk; exact sg_o65 (n := n) (m0 := m) (j := j) (k := k) (sg_fl_ok _ (of_decide_eq_true z1.1)) (by have z2 := z1.2; simpa using z2) hd hK h
  | 16, hd, hk, hK, h => have z1 := Bool.and_eq_true_iff.mp hk; exact sg_o16 (n := n) (m0 := m) (j := j) (k := k) (sg_fl_ok _ (of_decide_eq_true z1.1)) (sg_fp_ok _ (of_decide_eq_true z1.2)) hd hK h
  | 17, hd, hk, hK, h => exact sg_o17 (n := n) (m0 := m) (j := j) (k := k)  hd hK h
  | 18, hd, hk, hK, h => exact sg_o18 (n := n) (m0 := m) (j := j) (k := k)  hd hK h
  | 19, hd, hk, hK, h => exact sg_o19 (n := n) (m0 := m) (j := j) (k := k)  hd hK h
  | 20, hd, hk, hK, h => exact sg_o20 (n := n) (m0 := m) (j := j) (k := k)  hd hK h
  | 21, hd, hk, hK, h => exact sg_o21 (n := n) (m0 := m) (j := j) (k := k)  hd hK h
  | 22, hd, hk, hK, h => exact sg_o22 (n := n) (m0 := m) (j := j) (k := k)  hd hK h
  | 23, hd, hk, hK, h => exact sg_o23 (n := n) (m0 := m) (j := j) (k := k)  hd hK h
  | 24, hd, hk, hK, h => exact sg_o24 (n := n) (m0 := m) (j := j) (k := k)  hd hK h
  | 25, hd, hk, hK, h => exact sg_o25 (n := n) (m0 := m) (j := j) (k := k) (of_decide_eq_true hk) hd hK h
  | 26, hd, hk, hK, h => exact sg_o26 (n := n) (m0 := m) (j := j) (k := k) (of_decide_eq_true hk) hd hK h
  | 27, hd, hk, hK, h => exact sg_o27 (n := n) (m0 := m) (j := j) (k := k) (of_decide_eq_true hk) hd hK h
  | 28, hd, hk, hK, h => exact sg_o28 (n := n) (m0 := m) (j := j) (k := k) (of_decide_eq_true hk) hd hK h
  | 29, hd, hk, hK, h => exact sg_o29 (n := n) (m0 := m) (j := j) (k := k) (of_decide_eq_true hk) hd hK h
  | 30, hd, hk, hK, h => exact sg_o30 (n := n) (m0 := m) (j := j) (k := k) (of_decide_eq_true hk) hd hK h
  | 31, hd, hk, hK, h => exact sg_o31 (n := n) (m0 := m) (j := j) (k := k) (of_decide_eq_true hk) hd hK h
  | 32, hd, hk, hK, h => exact sg_o32 (n := n) (m0 := m) (j := j) (k := k)  hd hK h
  | 33, hd, hk, hK, h => exact sg_o33 (n := n) (m0 := m) (j := j) (k := k)  hd hK h
  | 34, hd, hk, hK, h => exact sg_o34 (n := n) (m0 := m) (j := j) (k := k)  hd hK h
  | 35, hd, hk, hK, h => exact sg_o35 (n := n) (m0 := m) (j := j) (k := k)  hd hK h
  | 36, hd, hk, hK, h => exact sg_o36 (n := n) (m0 := m) (j := j) (k := k)  hd hK h
  | 37, hd, hk, hK, h => exact sg_o37 (n := n) (m0 := m) (j := j) (k := k)  hd hK h
  | 38, hd, hk, hK, h => exact sg_o38 (n := n) (m0 := m) (j := j) (k := k)  hd hK h
  | 39, hd, hk, hK, h => exact sg_o39 (n := n) (m0 := m) (j := j) (k := k)  hd hK h
  | 40, hd, hk, hK, h => exact sg_o40 (n := n) (m0 := m) (j := j) (k := k)  hd hK h
  | 41, hd, hk, hK, h => exact sg_o41 (n := n) (m0 := m) (j := j) (k := k)  hd hK h
  | 42, hd, hk, hK, h => exact sg_o42 (n := n) (m0 := m) (j := j) (k := k)  hd hK h
  | 43, hd, hk, hK, h => exact sg_o43 (n := n) (m0 := m) (j := j) (k := k)  hd hK h
  | 44, hd, hk, hK, h => exact sg_o44 (n := n) (m0 := m) (j := j) (k := k)  hd hK h
  | 45, hd, hk, hK, h => exact sg_o45 (n := n) (m0 := m) (j := j) (k := k)  hd hK h
  | 46, hd, hk, hK, h => exact sg_o46 (n := n) (m0 := m) (j := j) (k := k)  hd hK h
  | 47, hd, hk, hK, h => exact sg_o47 (n := n) (m0 := m) (j := j) (k := k)  hd hK h
  | 48, hd, hk, hK, h => exact sg_o48 (n := n) (m0 := m) (j := j) (k := k)  hd hK h
  | 49, hd, hk, hK, h => exact sg_o49 (n := n) (m0 := m) (j := j) (k := k)  hd hK h
  | 50, hd, hk, hK, h => exact sg_o50 (n := n) (m0 := m) (j := j) (k := k)  hd hK h
  | 51, hd, hk, hK, h => exact sg_o51 (n := n) (m0 := m) (j := j) (k := k)  hd hK h
  | 52, hd, hk, hK, h => exact sg_o52 (n := n) (m0 := m) (j := j) (k := k)  hd hK h
  | 53, hd, hk, hK, h => exact sg_o53 (n := n) (m0 := m) (j := j) (k := k)  hd hK h
  | 54, hd, hk, hK, h => exact sg_o54 (n := n) (m0 := m) (j := j) (k := k)  hd hK h
  | 55, hd, hk, hK, h => exact sg_o55 (n := n) (m0 := m) (j := j) (k := k)  hd hK h
  | 56, hd, hk, hK, h => exact sg_o56 (n := n) (m0 := m) (j := j) (k := k)  hd hK h
  | 57, hd, hk, hK, h => exact sg_o57 (n := n) (m0 := m) (j := j) (k := k)  hd hK h
  | 58, hd, hk, hK, h => exact sg_o58 (n := n) (m0 := m) (j := j) (k := k)  hd hK h
  | 59, hd, hk, hK, h => exact sg_o59 (n := n) (m0 := m) (j := j) (k := k)  hd hK h
  | 60, hd, hk, hK, h => have z1 := Bool.and_eq_true_iff.mp hk; exact sg_o60 (n := n) (m0 := m) (j := j) (k := k) (of_decide_eq_true z1.1) (of_decide_eq_true z1.2) hd hK h
  | 61, hd, hk, hK, h => have z1 := Bool.and_eq_true_iff.mp hk; exact sg_o61 (n := n) (m0 := m) (j := j) (k := k) (of_decide_eq_true z1.1) (of_decide_eq_true z1.2) hd hK h
  | 62, hd, hk, hK, h => have z1 := Bool.and_eq_true_iff.mp hk; exact sg_o62 (n := n) (m0 := m) (j := j) (k := k) (of_decide_eq_true z1.1) (of_decide_eq_true z1.2) hd hK h
  | 63, hd, hk, hK, h => have z1 := Bool.and_eq_true_iff.mp hk; exact sg_o63 (n := n) (m0 := m) (j := j) (k := k) (of_decide_eq_true z1.1) (of_decide_eq_true z1.2) hd hK h
  | 66, hd, hk, hK, h => exact sg_o66 (n := n) (m0 := m) (j := j) (k := k)  hd hK h
  | 67, hd, hk, hK, h => exact sg_o67 (n := n) (m0 := m) (j := j) (k := k)  hd hK h
  | 68, hd, hk, hK, h => exact sg_o68 (n := n) (m0 := m) (j := j) (k := k)  hd hK h
  | 0, _, _, _, h => exact h.elim
  | 64, _, _, _, h => exact h.elim
  | op + 69, _, _, _, h => exact h.elim
def sg_ok (own maxL : Nat) (b : ByteArray) : Nat → List SgI → Bool
  | _, [] => true
  | pc, i :: is => (match decode b pc with | .ok x => decide (x = sg_ins i) | .error _ => false) && sg_lk own maxL i && sg_ok own maxL b (pc + (sg_ins i).2) is
def sg_end : Nat → List SgI → Nat
  | pc, [] => pc
  | pc, i :: is => sg_end (pc + (sg_ins i).2) is
def sg_run (lo N : Nat) : List SgI → SgL → SgS → SgM → SgK → Prop
  | [], L, S, G, K => K L S G
  | i :: is, L, S, G, K => sg_st lo N i L S G (fun L' S' G' => sg_run lo N is L' S' G' K)
theorem sg_blk : ∀ (is : List SgI) {pc : Nat} {L : SgL} {S : SgS} {G : SgM}, sg_ok y.1 y.2.2.2.1 y.2.2.1 pc is = true → sg_run lo N is L S G (fun L' S' G' => sg_Wp lo N d y (sg_end pc is) L' S' G' Q) → sg_Wp lo N d y pc L S G Q
  | [], _, _, _, _, _, h => h
  | i :: is, pc, L, S, G, hk, h => by
    unfold sg_ok at hk
    obtain ⟨h1, h2⟩ := Bool.and_eq_true_iff.mp hk
    obtain ⟨h1, h3⟩ := Bool.and_eq_true_iff.mp h1
    have hd : decode y.2.2.1 pc = .ok (sg_ins i) := by
      split at h1
      · rename_i x hx
        rw [hx, of_decide_eq_true h1]
      · cases h1
    exact sg_one i hd h3 (fun L2 S2 G2 k => sg_blk is h2 k) h
end SgT
end
section
/-! JUMPS, SWITCHES, ANSWERS, CALLS -/
section SgU
variable {lo N d : Nat} {y : SgY} {pc : Nat} {L : SgL} {S r : SgS} {G : SgM} {Q : Int → SgM → Prop}
theorem sg_goto {off : Int} {tgt : Nat} (hd : decode y.2.2.1 pc = .ok (.goto off, 3)) (ht : (pc : Int) + off = (tgt : Int)) (h : sg_Wp lo N d y tgt L S G Q) : sg_Wp lo N d y pc L S G Q := by
  intro p l e R s m args below meth c D cy a H locs ls hC hH
  exact lv_goto hC.1 hC.2.1 hd ht (h p l e R s m args below meth c D cy a H locs ls hC hH)
theorem sg_lt32 {x y : Int} (hx : sg_32 x) (hy : sg_32 y) : Int32.ofInt x < Int32.ofInt y ↔ x < y := by
  rw [Int32.lt_iff_toInt_lt, show (Int32.ofInt x).toInt = x from hx, show (Int32.ofInt y).toInt = y from hy]
theorem sg_le32 {x y : Int} (hx : sg_32 x) (hy : sg_32 y) : Int32.ofInt x ≤ Int32.ofInt y ↔ x ≤ y := by
  rw [Int32.le_iff_toInt_le, show (Int32.ofInt x).toInt = x from hx, show (Int32.ofInt y).toInt = y from hy]
theorem sg_eq32 {x y : Int} (hx : sg_32 x) (hy : sg_32 y) : Int32.ofInt x = Int32.ofInt y ↔ x = y := by
  rw [← Int32.toInt_inj, show (Int32.ofInt x).toInt = x from hx, show (Int32.ofInt y).toInt = y from hy]
theorem sg_z32 : sg_32 0 := rfl

theorem sg_icmp_lt {x z off : Int} {tgt : Nat} (hd : decode y.2.2.1 pc = .ok (.if_icmp .lt off, 3)) (ht : (pc : Int) + off = (tgt : Int)) (h : (x < z → sg_Wp lo N d y tgt L r G Q) ∧ (¬ (x < z) → sg_Wp lo N d y (pc + 3) L r G Q)) : sg_Wp lo N d y pc L ((0, z) :: (0, x) :: r) G Q := by
  intro p l e R s m args below meth c D cy a H locs ls hC hH
  have hz : sg_32 z := sg_hd1 hH.sk
  have hx : sg_32 x := sg_hd1 (sg_tl1 hH.sk)
  have i := sg_lt32 hx hz
  have kt := fun q => h.1 q p l e R s m args below meth c D cy a H locs ls hC (hH.st (sg_tl1 (sg_tl1 hH.sk)))
  have kf := fun q => h.2 q p l e R s m args below meth c D cy a H locs ls hC (hH.st (sg_tl1 (sg_tl1 hH.sk)))
  exact lv_icmp_lt hC.1 hC.2.1 hd ht (fun q => kt (i.mp q)) (fun q => kf (fun q2 => q (i.mpr q2)))
theorem sg_icmp_le {x z off : Int} {tgt : Nat} (hd : decode y.2.2.1 pc = .ok (.if_icmp .le off, 3)) (ht : (pc : Int) + off = (tgt : Int)) (h : (x ≤ z → sg_Wp lo N d y tgt L r G Q) ∧ (¬ (x ≤ z) → sg_Wp lo N d y (pc + 3) L r G Q)) : sg_Wp lo N d y pc L ((0, z) :: (0, x) :: r) G Q := by
  intro p l e R s m args below meth c D cy a H locs ls hC hH
  have hz : sg_32 z := sg_hd1 hH.sk
  have hx : sg_32 x := sg_hd1 (sg_tl1 hH.sk)
  have i := sg_le32 hx hz
  have kt := fun q => h.1 q p l e R s m args below meth c D cy a H locs ls hC (hH.st (sg_tl1 (sg_tl1 hH.sk)))
  have kf := fun q => h.2 q p l e R s m args below meth c D cy a H locs ls hC (hH.st (sg_tl1 (sg_tl1 hH.sk)))
  exact lv_icmp_le hC.1 hC.2.1 hd ht (fun q => kt (i.mp q)) (fun q => kf (fun q2 => q (i.mpr q2)))
theorem sg_icmp_gt {x z off : Int} {tgt : Nat} (hd : decode y.2.2.1 pc = .ok (.if_icmp .gt off, 3)) (ht : (pc : Int) + off = (tgt : Int)) (h : (z < x → sg_Wp lo N d y tgt L r G Q) ∧ (¬ (z < x) → sg_Wp lo N d y (pc + 3) L r G Q)) : sg_Wp lo N d y pc L ((0, z) :: (0, x) :: r) G Q := by
  intro p l e R s m args below meth c D cy a H locs ls hC hH
  have hz : sg_32 z := sg_hd1 hH.sk
  have hx : sg_32 x := sg_hd1 (sg_tl1 hH.sk)
  have i := sg_lt32 hz hx
  have kt := fun q => h.1 q p l e R s m args below meth c D cy a H locs ls hC (hH.st (sg_tl1 (sg_tl1 hH.sk)))
  have kf := fun q => h.2 q p l e R s m args below meth c D cy a H locs ls hC (hH.st (sg_tl1 (sg_tl1 hH.sk)))
  exact lv_icmp_gt hC.1 hC.2.1 hd ht (fun q => kt (i.mp q)) (fun q => kf (fun q2 => q (i.mpr q2)))
theorem sg_icmp_ge {x z off : Int} {tgt : Nat} (hd : decode y.2.2.1 pc = .ok (.if_icmp .ge off, 3)) (ht : (pc : Int) + off = (tgt : Int)) (h : (z ≤ x → sg_Wp lo N d y tgt L r G Q) ∧ (¬ (z ≤ x) → sg_Wp lo N d y (pc + 3) L r G Q)) : sg_Wp lo N d y pc L ((0, z) :: (0, x) :: r) G Q := by
  intro p l e R s m args below meth c D cy a H locs ls hC hH
  have hz : sg_32 z := sg_hd1 hH.sk
  have hx : sg_32 x := sg_hd1 (sg_tl1 hH.sk)
  have i := sg_le32 hz hx
  have kt := fun q => h.1 q p l e R s m args below meth c D cy a H locs ls hC (hH.st (sg_tl1 (sg_tl1 hH.sk)))
  have kf := fun q => h.2 q p l e R s m args below meth c D cy a H locs ls hC (hH.st (sg_tl1 (sg_tl1 hH.sk)))
  exact lv_icmp_ge hC.1 hC.2.1 hd ht (fun q => kt (i.mp q)) (fun q => kf (fun q2 => q (i.mpr q2)))
theorem sg_icmp_eq {x z off : Int} {tgt : Nat} (hd : decode y.2.2.1 pc = .ok (.if_icmp .eq off, 3)) (ht : (pc : Int) + off = (tgt : Int)) (h : (x = z → sg_Wp lo N d y tgt L r G Q) ∧ (¬ (x = z) → sg_Wp lo N d y (pc + 3) L r G Q)) : sg_Wp lo N d y pc L ((0, z) :: (0, x) :: r) G Q := by
  intro p l e R s m args below meth c D cy a H locs ls hC hH
  have hz : sg_32 z := sg_hd1 hH.sk
  have hx : sg_32 x := sg_hd1 (sg_tl1 hH.sk)
  have i := sg_eq32 hx hz
  have kt := fun q => h.1 q p l e R s m args below meth c D cy a H locs ls hC (hH.st (sg_tl1 (sg_tl1 hH.sk)))
  have kf := fun q => h.2 q p l e R s m args below meth c D cy a H locs ls hC (hH.st (sg_tl1 (sg_tl1 hH.sk)))
  exact lv_icmp_eq hC.1 hC.2.1 hd ht (fun q => kt (i.mp q)) (fun q => kf (fun q2 => q (i.mpr q2)))
theorem sg_icmp_ne {x z off : Int} {tgt : Nat} (hd : decode y.2.2.1 pc = .ok (.if_icmp .ne off, 3)) (ht : (pc : Int) + off = (tgt : Int)) (h : (x ≠ z → sg_Wp lo N d y tgt L r G Q) ∧ (¬ (x ≠ z) → sg_Wp lo N d y (pc + 3) L r G Q)) : sg_Wp lo N d y pc L ((0, z) :: (0, x) :: r) G Q := by
  intro p l e R s m args below meth c D cy a H locs ls hC hH
  have hz : sg_32 z := sg_hd1 hH.sk
  have hx : sg_32 x := sg_hd1 (sg_tl1 hH.sk)
  have i := not_congr (sg_eq32 hx hz)
  have kt := fun q => h.1 q p l e R s m args below meth c D cy a H locs ls hC (hH.st (sg_tl1 (sg_tl1 hH.sk)))
  have kf := fun q => h.2 q p l e R s m args below meth c D cy a H locs ls hC (hH.st (sg_tl1 (sg_tl1 hH.sk)))
  exact lv_icmp_ne hC.1 hC.2.1 hd ht (fun q => kt (i.mp q)) (fun q => kf (fun q2 => q2 ((sg_eq32 hx hz).mp q)))
theorem sg_if_lt {x off : Int} {tgt : Nat} (hd : decode y.2.2.1 pc = .ok (.ifCond .lt off, 3)) (ht : (pc : Int) + off = (tgt : Int)) (h : (x < 0 → sg_Wp lo N d y tgt L r G Q) ∧ (¬ (x < 0) → sg_Wp lo N d y (pc + 3) L r G Q)) : sg_Wp lo N d y pc L ((0, x) :: r) G Q := by
  intro p l e R s m args below meth c D cy a H locs ls hC hH
  have hx : sg_32 x := sg_hd1 hH.sk
  have i := sg_lt32 hx sg_z32
  have kt := fun q => h.1 q p l e R s m args below meth c D cy a H locs ls hC (hH.st (sg_tl1 hH.sk))
  have kf := fun q => h.2 q p l e R s m args below meth c D cy a H locs ls hC (hH.st (sg_tl1 hH.sk))
  exact lv_if_lt hC.1 hC.2.1 hd ht (fun q => kt (i.mp q)) (fun q => kf (fun q2 => q (i.mpr q2)))
theorem sg_if_le {x off : Int} {tgt : Nat} (hd : decode y.2.2.1 pc = .ok (.ifCond .le off, 3)) (ht : (pc : Int) + off = (tgt : Int)) (h : (x ≤ 0 → sg_Wp lo N d y tgt L r G Q) ∧ (¬ (x ≤ 0) → sg_Wp lo N d y (pc + 3) L r G Q)) : sg_Wp lo N d y pc L ((0, x) :: r) G Q := by
  intro p l e R s m args below meth c D cy a H locs ls hC hH
  have hx : sg_32 x := sg_hd1 hH.sk
  have i := sg_le32 hx sg_z32
  have kt := fun q => h.1 q p l e R s m args below meth c D cy a H locs ls hC (hH.st (sg_tl1 hH.sk))
  have kf := fun q => h.2 q p l e R s m args below meth c D cy a H locs ls hC (hH.st (sg_tl1 hH.sk))
  exact lv_if_le hC.1 hC.2.1 hd ht (fun q => kt (i.mp q)) (fun q => kf (fun q2 => q (i.mpr q2)))
theorem sg_if_gt {x off : Int} {tgt : Nat} (hd : decode y.2.2.1 pc = .ok (.ifCond .gt off, 3)) (ht : (pc : Int) + off = (tgt : Int)) (h : (0 < x → sg_Wp lo N d y tgt L r G Q) ∧ (¬ (0 < x) → sg_Wp lo N d y (pc + 3) L r G Q)) : sg_Wp lo N d y pc L ((0, x) :: r) G Q := by
  intro p l e R s m args below meth c D cy a H locs ls hC hH
  have hx : sg_32 x := sg_hd1 hH.sk
  have i := sg_lt32 sg_z32 hx
  have kt := fun q => h.1 q p l e R s m args below meth c D cy a H locs ls hC (hH.st (sg_tl1 hH.sk))
  have kf := fun q => h.2 q p l e R s m args below meth c D cy a H locs ls hC (hH.st (sg_tl1 hH.sk))
  exact lv_if_gt hC.1 hC.2.1 hd ht (fun q => kt (i.mp q)) (fun q => kf (fun q2 => q (i.mpr q2)))
theorem sg_if_ge {x off : Int} {tgt : Nat} (hd : decode y.2.2.1 pc = .ok (.ifCond .ge off, 3)) (ht : (pc : Int) + off = (tgt : Int)) (h : (0 ≤ x → sg_Wp lo N d y tgt L r G Q) ∧ (¬ (0 ≤ x) → sg_Wp lo N d y (pc + 3) L r G Q)) : sg_Wp lo N d y pc L ((0, x) :: r) G Q := by
  intro p l e R s m args below meth c D cy a H locs ls hC hH
  have hx : sg_32 x := sg_hd1 hH.sk
  have i := sg_le32 sg_z32 hx
  have kt := fun q => h.1 q p l e R s m args below meth c D cy a H locs ls hC (hH.st (sg_tl1 hH.sk))
  have kf := fun q => h.2 q p l e R s m args below meth c D cy a H locs ls hC (hH.st (sg_tl1 hH.sk))
  exact lv_if_ge hC.1 hC.2.1 hd ht (fun q => kt (i.mp q)) (fun q => kf (fun q2 => q (i.mpr q2)))
theorem sg_if_eq {x off : Int} {tgt : Nat} (hd : decode y.2.2.1 pc = .ok (.ifCond .eq off, 3)) (ht : (pc : Int) + off = (tgt : Int)) (h : (x = 0 → sg_Wp lo N d y tgt L r G Q) ∧ (¬ (x = 0) → sg_Wp lo N d y (pc + 3) L r G Q)) : sg_Wp lo N d y pc L ((0, x) :: r) G Q := by
  intro p l e R s m args below meth c D cy a H locs ls hC hH
  have hx : sg_32 x := sg_hd1 hH.sk
  have i := sg_eq32 hx sg_z32
  have kt := fun q => h.1 q p l e R s m args below meth c D cy a H locs ls hC (hH.st (sg_tl1 hH.sk))
  have kf := fun q => h.2 q p l e R s m args below meth c D cy a H locs ls hC (hH.st (sg_tl1 hH.sk))
  exact lv_if_eq hC.1 hC.2.1 hd ht (fun q => kt (i.mp q)) (fun q => kf (fun q2 => q (i.mpr q2)))
theorem sg_if_ne {x off : Int} {tgt : Nat} (hd : decode y.2.2.1 pc = .ok (.ifCond .ne off, 3)) (ht : (pc : Int) + off = (tgt : Int)) (h : (x ≠ 0 → sg_Wp lo N d y tgt L r G Q) ∧ (¬ (x ≠ 0) → sg_Wp lo N d y (pc + 3) L r G Q)) : sg_Wp lo N d y pc L ((0, x) :: r) G Q := by
  intro p l e R s m args below meth c D cy a H locs ls hC hH
  have hx : sg_32 x := sg_hd1 hH.sk
  have i := not_congr (sg_eq32 hx sg_z32)
  have kt := fun q => h.1 q p l e R s m args below meth c D cy a H locs ls hC (hH.st (sg_tl1 hH.sk))
  have kf := fun q => h.2 q p l e R s m args below meth c D cy a H locs ls hC (hH.st (sg_tl1 hH.sk))
  exact lv_if_ne hC.1 hC.2.1 hd ht (fun q => kt (i.mp q)) (fun q => kf (fun q2 => q2 ((sg_eq32 hx sg_z32).mp q)))
def sg_sw (x : Int) : Int → List Nat → (Nat → Prop) → Prop → Prop
  | _, [], _, D => D
  | k, t :: ts, K, D => (x = k → K t) ∧ (x ≠ k → sg_sw x (k + 1) ts K D)
theorem sg_sw_in {x : Int} {K : Nat → Prop} {D : Prop} : ∀ (ts : List Nat) (k : Int) (j : Nat) (t : Nat), sg_sw x k ts K D → ts[j]? = some t → x = k + (j : Int) → K t
  | t0 :: ts, k, 0, t, h, hj, hx => by
    have e : t0 = t := Option.some.inj hj
    exact e ▸ h.1 (by omega)
  | t0 :: ts, k, j + 1, t, h, hj, hx => sg_sw_in ts (k + 1) j t (h.2 (by omega)) hj (by omega)
theorem sg_sw_out {x : Int} {K : Nat → Prop} {D : Prop} : ∀ (ts : List Nat) (k : Int), sg_sw x k ts K D → (x < k ∨ k + (ts.length : Int) ≤ x) → D
  | [], _, h, _ => h
  | t0 :: ts, k, h, hx => by
    rw [List.length_cons] at hx
    exact sg_sw_out ts (k + 1) (h.2 (by omega)) (by omega)
theorem sg_tsw {x dflt low high : Int} {offs : Array Int} {len dt : Nat} {ts : List Nat} (hd : decode y.2.2.1 pc = .ok (.tableswitch dflt low high offs, len)) (hts : offs.toList.map (fun o => (pc : Int) + o) = ts.map (fun t : Nat => (t : Int))) (hhi : low + (ts.length : Int) = high + 1) (hdt : (pc : Int) + dflt = (dt : Int))
    (h : sg_sw x low ts (fun t => sg_Wp lo N d y t L r G Q) (sg_Wp lo N d y dt L r G Q)) : sg_Wp lo N d y pc L ((0, x) :: r) G Q := by
  intro p l e R s m args below meth c D cy a H locs ls hC hH
  have hx : (Int32.ofInt x).toInt = x := sg_hd1 hH.sk
  by_cases hin : low ≤ x ∧ x ≤ high
  · have hlt : (x - low).toNat < ts.length := by omega
    obtain ⟨t, htj⟩ : ∃ t, ts[(x - low).toNat]? = some t := ⟨_, List.getElem?_eq_getElem hlt⟩
    have h1 : (offs.toList.map (fun o => (pc : Int) + o))[(x - low).toNat]? = some (t : Int) := by rw [hts, List.getElem?_map, htj]; rfl
    rw [List.getElem?_map, Array.getElem?_toList] at h1
    cases ho : offs[(x - low).toNat]? with
    | none => rw [ho] at h1; cases h1
    | some off =>
      rw [ho] at h1
      have hpc : (pc : Int) + off = (t : Int) := Option.some.inj h1
      have k := sg_sw_in ts low (x - low).toNat t h htj (by omega)
      exact lv_tableIn hC.1 hC.2.1 hd (by rw [hx]; omega) (by rw [hx]; omega) (by rw [hx]; exact ho) hpc (k p l e R s m args below meth c D cy a H locs ls hC (hH.st (sg_tl1 hH.sk)))
  · have k := sg_sw_out ts low h (by omega)
    exact lv_tableOut hC.1 hC.2.1 hd (by rw [hx]; omega) hdt (k p l e R s m args below meth c D cy a H locs ls hC (hH.st (sg_tl1 hH.sk)))
def sg_lsw (x : Int) : List (Int × Nat) → (Nat → Prop) → Prop → Prop
  | [], _, D => D
  | q :: ts, K, D => (x = q.1 → K q.2) ∧ (x ≠ q.1 → sg_lsw x ts K D)
theorem sg_lsw_off {x dflt : Int} {dt : Nat} {K : Nat → Prop} (hdt : (pc : Int) + dflt = (dt : Int)) : ∀ (ps : List (Int × Int)) (ts : List (Int × Nat)), ps.map (fun q => (q.1, (pc : Int) + q.2)) = ts.map (fun q => (q.1, (q.2 : Int))) → sg_lsw x ts K (K dt) → ∃ t : Nat, (pc : Int) + Op.lookupswitch.offset ps dflt x = (t : Int) ∧ K t
  | [], [], _, h => ⟨dt, hdt, h⟩
  | [], t :: ts, e, _ => by cases e
  | q :: ps, [], e, _ => by cases e
  | q :: ps, t :: ts, e, h => by
    obtain ⟨q1, q2⟩ := q
    obtain ⟨t1, t2⟩ := t
    rw [List.map_cons, List.map_cons, List.cons.injEq] at e
    obtain ⟨e1, e2⟩ := e
    simp only [Prod.mk.injEq] at e1
    by_cases c : x = q1
    · refine ⟨t2, ?_, h.1 (by rw [c]; exact e1.1)⟩
      rw [Op.lookupswitch.offset_cons, if_pos c.symm]
      exact e1.2
    · obtain ⟨t, h1, h2⟩ := sg_lsw_off hdt ps ts e2 (h.2 (fun z => c (by rw [z]; exact e1.1.symm)))
      refine ⟨t, ?_, h2⟩
      rw [Op.lookupswitch.offset_cons, if_neg (fun z => c z.symm)]
      exact h1
theorem sg_lksw {x dflt : Int} {ps : Array (Int × Int)} {len dt : Nat} {ts : List (Int × Nat)} (hd : decode y.2.2.1 pc = .ok (.lookupswitch dflt ps, len)) (hp : (ps.toList.zip (ps.toList.drop 1)).all (fun (a, next) => a.1 < next.1) = true) (hts : ps.toList.map (fun q => (q.1, (pc : Int) + q.2)) = ts.map (fun q => (q.1, (q.2 : Int)))) (hdt : (pc : Int) + dflt = (dt : Int))
    (h : sg_lsw x ts (fun t => sg_Wp lo N d y t L r G Q) (sg_Wp lo N d y dt L r G Q)) : sg_Wp lo N d y pc L ((0, x) :: r) G Q := by
  intro p l e R s m args below meth c D cy a H locs ls hC hH
  have hx : (Int32.ofInt x).toInt = x := sg_hd1 hH.sk
  obtain ⟨t, h1, h2⟩ := sg_lsw_off hdt ps.toList ts hts h
  rw [← hx] at h1
  exact lv_lookup hC.1 hC.2.1 hd hp rfl h1 (h2 p l e R s m args below meth c D cy a H locs ls hC (hH.st (sg_tl1 hH.sk)))
/-- answers -/
theorem sg_ret {v : Int} {ty : FieldType} (hd : decode y.2.2.1 pc = .ok (.ireturn, 1)) (hr : y.2.2.2.2 = some ty) (hty : ty = .int ∨ ((ty = .boolean ∨ ty = .byte) ∧ (v = 0 ∨ v = 1))) (h : Q v G) : sg_Wp lo N d y pc L [(0, v)] G Q := by
  intro p l e R s m args below meth c D cy a H locs ls hC hH
  have hn : narrow ty (.int (Int32.ofInt v)) = .int (Int32.ofInt v) := by
    rcases hty with rfl | ⟨rfl | rfl, rfl | rfl⟩ <;> rfl
  have hq : ∀ t : State, t.heap = H → s.WarmedH t.vm → sg_Qc lo N D cy a y.2.2.2.2 Q args s (.returned (some (.int (Int32.ofInt v)))) t := fun t ht _ => by
    refine ⟨⟨v, G, ?_, ?_, h, by rw [ht]; exact hH.1, hH.2.2.2.1⟩, hH.2.2.1.F ht⟩
    · rw [hr]
      rcases hty with rfl | ⟨rfl | rfl, -⟩ <;> rfl
    · rw [hr]
      rcases hty with rfl | ⟨rfl | rfl, -⟩ <;> exact sg_hd1 hH.sk
  exact W.zret hC.1 hC.2.1 (hC.2.2.2.1.trans hr) hn hq (fun q h2 => hH.2.2.1.2.2 q h2) hd hC.2.2.2.2.1
theorem sg_lret {v : Int} (hd : decode y.2.2.1 pc = .ok (.lreturn, 1)) (hr : y.2.2.2.2 = some .long) (h : Q v G) : sg_Wp lo N d y pc L [(1, v)] G Q := by
  intro p l e R s m args below meth c D cy a H locs ls hC hH
  have hq : ∀ t : State, t.heap = H → s.WarmedH t.vm → sg_Qc lo N D cy a y.2.2.2.2 Q args s (.returned (some (.long (Int64.ofInt v)))) t := fun t ht _ => by
    refine ⟨⟨v, G, by rw [hr]; rfl, by rw [hr]; exact sg_hd1 hH.sk, h, by rw [ht]; exact hH.1, hH.2.2.2.1⟩, hH.2.2.1.F ht⟩
  exact W.lret hC.1 hC.2.1 (hC.2.2.2.1.trans hr) hq (fun q h2 => hH.2.2.1.2.2 q h2) hd hC.2.2.2.2.1
theorem sg_vret (hd : decode y.2.2.1 pc = .ok (.return_, 1)) (hr : y.2.2.2.2 = none) (h : Q 0 G) : sg_Wp lo N d y pc L [] G Q := by
  intro p l e R s m args below meth c D cy a H locs ls hC hH
  have hq : ∀ t : State, t.heap = H → s.WarmedH t.vm → sg_Qc lo N D cy a y.2.2.2.2 Q args s (.returned none) t := fun t ht _ => by
    refine ⟨⟨0, G, by rw [hr]; rfl, by rw [hr]; trivial, h, by rw [ht]; exact hH.1, hH.2.2.2.1⟩, hH.2.2.1.F ht⟩
  exact W.vret hC.1 hC.2.1 (hC.2.2.2.1.trans hr) hq (fun q h2 => hH.2.2.1.2.2 q h2) hd hC.2.2.2.2.1
theorem sg_aret {v : Int} {t0 : Nat} {C : String} (hd : decode y.2.2.1 pc = .ok (.areturn, 1)) (hr : y.2.2.2.2 = some (.object C)) (hC0 : t0 = if C = "java/lang/String" then 3 else 2) (h : Q v G) : sg_Wp lo N d y pc L [(t0, v)] G Q := by
  intro p l e R s m args below meth c D cy a H locs ls hC hH
  have hv : sg_r (some (.object C)) a v = some (sg_v a (t0, v)) := by
    rw [hC0]
    show some _ = some _
    by_cases e : C = "java/lang/String"
    · rw [if_pos e, if_pos e]; rfl
    · rw [if_neg e, if_neg e]; rfl
  have h2 : 2 ≤ t0 := by rw [hC0]; split <;> omega
  have hq : ∀ t : State, t.heap = H → s.WarmedH t.vm → sg_Qc lo N D cy a y.2.2.2.2 Q args s (.returned (some (sg_v a (t0, v)))) t := fun t ht _ => by
    refine ⟨⟨v, G, by rw [hr, hv], by rw [hr]; trivial, h, by rw [ht]; exact hH.1, hH.2.2.2.1⟩, hH.2.2.1.F ht⟩
  exact W.aret hC.1 hC.2.1 (hC.2.2.2.1.trans hr) (Or.inl ⟨_, rfl⟩) (Or.inr (sg_ref2 a (v := (t0, v)) h2)) hq (fun q h2 => hH.2.2.1.2.2 q h2) hd hC.2.2.2.2.1
/-- a method's start -/
def sg_ent : Nat → SgS → SgL
  | _, [] => []
  | i, v :: vs => (i, v) :: sg_ent (if v.1 = 1 then i + 2 else i + 1) vs
def sg_sz : SgS → Nat
  | [] => 0
  | v :: vs => (if v.1 = 1 then 2 else 1) + sg_sz vs
theorem sg_cats (a : SgA) (v : Nat × Int) : (sg_v a v).category = if v.1 = 1 then 2 else 1 := by
  by_cases h : v.1 = 1
  · rw [if_pos h]
    obtain ⟨t, x⟩ := v
    cases h
    rfl
  · rw [if_neg h, sg_cat h]
theorem sg_ent_args (a : SgA) : ∀ (vs : SgS) (i : Nat), lv_args i (vs.map (sg_v a)) = (sg_ent i vs).map (fun q => (q.1, sg_v a q.2))
  | [], _ => rfl
  | v :: vs, i => by
    rw [List.map_cons]
    unfold lv_args sg_ent
    rw [sg_ent_args a vs, List.map_cons, sg_cats]
    by_cases h : v.1 = 1
    · simp [h]
    · simp [h]
theorem sg_sl_len (a : SgA) : ∀ (vs : SgS), (lg_sl (vs.map (sg_v a))).length = sg_sz vs
  | [] => rfl
  | v :: vs => by
    have := sg_sl_len a vs
    unfold lg_sl at this ⊢
    rw [List.map_cons, List.flatMap_cons, List.length_append, this, sg_cats]
    show _ = (if v.1 = 1 then 2 else 1) + sg_sz vs
    by_cases h : v.1 = 1
    · simp [h]
    · simp [h]
theorem sg_ent_cv : ∀ (vs : SgS) (i : Nat), (∀ v ∈ vs, sg_cv v) → ∀ q ∈ sg_ent i vs, sg_cv q.2
  | [], _, _, q, hq => by cases hq
  | v :: vs, i, h, q, hq => by
    unfold sg_ent at hq
    rcases List.mem_cons.mp hq with e | e
    · rw [e]; exact sg_hd1 h
    · exact sg_ent_cv vs _ (sg_tl1 h) q e
def sg_ws (y : SgY) : List Cond := Cond.code y.2.1 y.2.2.1 y.2.2.2.1 y.2.2.2.2 :: sg_GT
def sg_rm (d : Nat) : Room := { frames := d, cells := 0, slots := 0, locals := 34 * d }
theorem sg_met (hcn : y.2.1.cls = sg_cn y.1) (hpl : plainName y.2.1.cls = true) {av : SgS} (hsz : sg_sz av ≤ y.2.2.2.1) (hcv : ∀ v ∈ av, sg_cv v) (h : sg_Wp lo N d y 0 (sg_ent 0 av) [] G Q) (l : Launch) (D : va_G) (cy : SgC) (a : SgA) : Met l y.2.1 (sg_ws y) (sg_rm d) (sg_Pc lo N D cy a av G) (sg_Qc lo N D cy a y.2.2.2.2 Q) 0 0 (sg_A lo N a) := by
  refine Met.ofW (cc := y.2.2.1) (maxL := y.2.2.2.1) (ret := y.2.2.2.2) hpl rfl ?_
  intro p e s m args below meth c s₁ B hml hv
  obtain ⟨rfl, hP, hD, hcan, hK, hX⟩ := hv
  have hts := atoms_spec (ws := sg_ws y) B.pre
  have hown : s.vm.findClass (sg_cn y.1) = some m.cls := by rw [← hcn]; exact findClass_of_methodNamed B.named
  have hl := lv_entry (av.map (sg_v a)) (n := y.2.2.2.1) (by rw [sg_sl_len]; exact hsz)
  rw [lg_entry_eq]
  generalize (lg_sl (av.map (sg_v a)) ++ List.replicate (y.2.2.2.1 - (lg_sl (av.map (sg_v a))).length) Slot.unset).toArray = ls at hl ⊢
  rw [sg_ent_args] at hl
  exact h p l e _ s m _ below meth c D cy a s.heap [] ls ⟨B.exec, B.bytes, hml, B.returns, B.notSynchronized, hown, fun w hw => hts w (List.mem_cons_of_mem _ hw), Nat.le_refl _, Nat.le_refl _, hK, hX⟩ ⟨hP, hD, va_S.rf, hcan, hl, sg_ent_cv av 0 hcv, fun v hv => by cases hv⟩
theorem sg_Pc_blind {D : va_G} {cy : SgC} {a : SgA} {av : SgS} : FrameBlind (sg_Pc lo N D cy a av G) := by
  intro b U g mk h
  obtain ⟨e, hP, hD, hcan, hK, hX⟩ := h
  exact ⟨e, hP, hD, hcan, va_K.moved (u := U) (U := U.calling g mk b) (Vm.Alike.refl U.vm) hK, sg_X.same (u := U) (U := U.calling g mk b) rfl hX⟩
theorem sg_push_map (ret : Option FieldType) (a : SgA) (v : Int) (r : SgS) : (sg_push ret v r).map (sg_v a) = (sg_r ret a v).toList ++ r.map (sg_v a) := by
  unfold sg_push sg_r
  split
  · rfl
  · rfl
  · rename_i C
    by_cases e : C = "java/lang/String"
    · simp only [if_pos e]; rfl
    · simp only [if_neg e]; rfl
  · rfl
theorem sg_push_cv {ret : Option FieldType} {v : Int} {r : SgS} (h : sg_rc ret v) (hr : ∀ w ∈ r, sg_cv w) : ∀ w ∈ sg_push ret v r, sg_cv w := by
  match ret, h with
  | none, _ => exact hr
  | some .long, h => exact sg_cons (v := (1, v)) h hr
  | some (.object C), _ =>
    show ∀ w ∈ (if C = "java/lang/String" then (3, v) else (2, v)) :: r, sg_cv w
    by_cases e : C = "java/lang/String"
    · rw [if_pos e]; exact sg_cons (v := (3, v)) trivial hr
    · rw [if_neg e]; exact sg_cons (v := (2, v)) trivial hr
  | some .int, h => exact sg_cons (v := (0, v)) h hr
  | some .boolean, h => exact sg_cons (v := (0, v)) h hr
  | some .byte, h => exact sg_cons (v := (0, v)) h hr
  | some .char, h => exact sg_cons (v := (0, v)) h hr
  | some .short, h => exact sg_cons (v := (0, v)) h hr
  | some .float, h => exact sg_cons (v := (0, v)) h hr
  | some .double, h => exact sg_cons (v := (0, v)) h hr
  | some (.array t), h => exact sg_cons (v := (0, v)) h hr
/-- behind a call -/
theorem sg_back {p : Program} {l : Launch} {e : Env} {R : Room} {s : State} {m : MethodId} {args : Array Value} {below : List Frame} {meth : Method} {c : Code} {D : va_G} {cy : SgC} {a : SgA} {H : Heap} {locs : List Loc} {ls : Array Slot} {Qs : State → Prop} {ret : Option FieldType} {Q1 : Int → SgM → Prop} {st0 rest : List Value} {aa : Array Value}
    (hr : va_Run p l e R s m args below meth c H locs 0 0 0 0 (F0 m pc ls st0) rest (sg_Qc lo N D cy a ret Q1 aa) (sg_A lo N a)) (hS : va_S (sg_A lo N a) s.heap H locs)
    (kk : ∀ (v : Int) (G' : SgM) (H1 : Heap) (locs1 : List Loc), sg_rc ret v → Q1 v G' → va_P D vwCl (sg_W cy a G' lo N) H1 → sg_can G' → va_S (sg_A lo N a) s.heap H1 locs1 → W p l e R s m args below meth c H1 locs1 0 0 Qs (F0 m (pc + 3) ls ((sg_r ret a v).toList ++ rest))) : W p l e R s m args below meth c H locs 0 0 Qs (F0 m pc ls st0) := by
  intro T hT X
  obtain ⟨v, st₀, t, T', L, h0, X', hL, e1, e2, ⟨⟨r, G', hv, hrc, hq, hP, hcan⟩, hz, hk⟩, st⟩ := hr T hT X
  cases hv
  rw [h0] at hz hk
  rw [← e1] at hP
  obtain ⟨t2, a1, b1⟩ := kk r G' T'.heap (locs ++ L) hrc hq hP hcan
    ⟨Nat.le_trans hS.1 (by rw [e1]; exact hz), fun q h1 h2 => by rw [e1, hk q (Nat.lt_of_lt_of_le h1 hS.1) h2]; exact hS.2.1 q h1 h2, fun q hq => by
      rcases List.mem_append.mp hq with h | h
      · exact hS.2.2 q h
      · exact hL q h⟩ T' rfl X'
  exact ⟨t2, st t2 a1, b1⟩
def sg_rs (r : SgS) : Nat := (r.map (fun v => if v.1 = 1 then 2 else 1)).sum
theorem sg_rs_le {a : SgA} {r : SgS} (h : sg_rs r ≤ 8) {g : JFrame} (hg : g.monitorRoom = 0) : 2 * g.monitorRoom + ((r.map (sg_v a)).map fun v => v.category).sum ≤ 8 := by
  rw [hg, List.map_map]
  have e : (fun v : Value => v.category) ∘ sg_v a = fun v : Nat × Int => if v.1 = 1 then 2 else 1 := funext fun v => sg_cats a v
  rw [e]
  unfold sg_rs at h
  omega
/-- what a call of method y' (n parameters) rests on, whoever calls it -/
def sg_CY (y' : SgY) (n : Nat) : Prop := plainName y'.2.1.cls = true ∧ y'.2.1.cls = sg_cn y'.1 ∧ Cond.initialized y'.2.1.cls ∈ sg_GT ∧ Cond.code y'.2.1 y'.2.2.1 y'.2.2.2.1 y'.2.2.2.2 ∈ sg_GT ∧ (y'.2.1.cls ≠ "java/lang/invoke/MethodHandle" ∧ y'.2.1.cls ≠ "java/lang/invoke/VarHandle" ∧ (parseMethodDescriptor y'.2.1.desc).map (fun d => d.parameters.length) = some n) ∧ y'.2.2.2.1 ≤ 15
def sg_CV (y' : SgY) (n : Nat) : Prop := sg_CY y' n ∧ Cond.instanceMethod y'.2.1 ∈ sg_GT ∧ Cond.selects y'.2.1.cls y'.2.1 y'.2.1 ∈ sg_GT
def sg_CS (y' : SgY) (n : Nat) : Prop := sg_CY y' n ∧ Cond.static y'.2.1 ∈ sg_GT
def sg_ML (own idx : Nat) (y' : SgY) : Prop := Cond.methodLink (sg_cn own) idx y'.2.1 ∈ sg_GT
theorem sg_goodL {ws : List Cond} (h : ∀ w ∈ ws, w ∈ sg_GT) : GoodIn sg_GT ws := fun w hw => sg_goodGT w (h w hw)
theorem sg_room {k d : Nat} {R : Room} {mx : Nat} (hk : k < d) (hm : mx ≤ 15) (h1 : d ≤ R.frames) (h2 : 34 * d ≤ R.locals) : (sg_rm k).frames + 1 ≤ R.frames ∧ 8 + (mx + 11) + (sg_rm k).locals ≤ R.locals := by
  refine ⟨?_, ?_⟩
  · show k + 1 ≤ R.frames
    omega
  · show 8 + (mx + 11) + 34 * k ≤ R.locals
    omega
theorem sg_callC {p : Program} {R : Room} {s : State} {m : MethodId} {args : Array Value} {meth : Method} {c : Code} {D : va_G} {cy : SgC} {a : SgA} {H : Heap} {locs : List Loc} {ls : Array Slot}
    (hC : sg_Cx lo N d y D cy a p R s m args meth c) (hH : sg_Hx lo N y D cy a s G H locs ls L S) {av : SgS} (U : State) (hU : U.heap = H) (hW : s.WarmedH U.vm) : sg_Pc lo N D cy a av G (av.map (sg_v a)).toArray U :=
  ⟨rfl, by rw [hU]; exact hH.1, hH.2.1, hH.2.2.2.1, va_K.moved hW.alike hC.2.2.2.2.2.2.2.2.2.1, (by
    rw [hU]
    exact (hC.2.2.2.2.2.2.2.2.2.2.kept (fun q h1 h2 => hH.2.2.1.2.1 q h1 h2)).warm hW)⟩
theorem sg_map_rev (a : SgA) (av : SgS) : (av.reverse).map (sg_v a) = (av.map (sg_v a)).reverse := List.map_reverse
theorem sg_callV {k idx ci n : Nat} {y' : SgY} {b : Int} {av rest : SgS} {T : u_T} {nf : Nat} (hd : decode y.2.2.1 pc = .ok (.invokevirtual idx, 3)) (hy : sg_CV y' n) (hm : sg_ML y.1 idx y') (hb : sg_Ce lo N b 0 (ci : Int)) (hci : vwCl[ci]? = some (y'.2.1.cls, T, nf)) (hn : av.length = n) (hsz : sg_sz av + 1 ≤ y'.2.2.2.1) (hk : k < d) (hrs : sg_rs rest ≤ 8) (hst : S = av.reverse ++ (2, b) :: rest)
    (h : sg_Wp lo N k y' 0 (sg_ent 0 ((2, b) :: av)) [] G (fun v G' => sg_Wp lo N d y (pc + 3) L (sg_push y'.2.2.2.2 v rest) G' Q)) : sg_Wp lo N d y pc L S G Q := by
  intro p l e R s m args below meth c D cy a H locs ls hC hH
  subst hst
  obtain ⟨⟨hpl, hcn, hini, hcode, hdd, hmx⟩, hinst, hsel⟩ := hy
  have hcvr : ∀ v ∈ (2, b) :: rest, sg_cv v := fun v hv => hH.sk v (List.mem_append_right _ hv)
  have hcva : ∀ v ∈ (2, b) :: av, sg_cv v := sg_cons (v := (2, b)) trivial (fun v hv => hH.sk v (List.mem_append_left _ (List.mem_reverse.mpr hv)))
  have hM := sg_met hcn hpl (av := (2, b) :: av) (by show 1 + sg_sz av ≤ _; omega) hcva h l D cy a
  have hT : GoodIn sg_GT (wsV (sg_cn y.1) idx y'.2.1.cls y'.2.1 (sg_ws y')) := sg_goodL (fun w hw => by
    unfold wsV at hw
    rcases List.mem_append.mp hw with h1 | h1
    · simp only [List.mem_cons, List.not_mem_nil, or_false] at h1
      rcases h1 with rfl | rfl | rfl | rfl
      · exact hm
      · exact hinst
      · exact hsel
      · exact hini
    · rcases List.mem_cons.mp h1 with h2 | h2
      · rw [h2]; exact hcode
      · exact h2)
  have hw : (sg_W cy a G lo N)[b.toNat - lo]? = some (a.1 b, .inr (ci, sg_fs a ci b G)) := by rw [sg_W_at hb.1, sg_e0 hb.2]; rfl
  have cw := cwV (R := R) (mc := 0) (ms := 0) n hC.2.2.2.2.2.2.1 hT rfl rfl rfl ⟨rfl, hdd⟩ (sg_room hk hmx hC.2.2.2.2.2.2.2.1 hC.2.2.2.2.2.2.2.2.1)
  rw [List.map_append, List.map_cons, sg_map_rev]
  refine sg_back (va_runV (As := av.map (sg_v a)) (rest := rest.map (sg_v a)) ⟨hC.1, hC.2.1, hC.2.2.1, hC.2.2.2.2.2.1, hC.2.2.2.2.2.2.1⟩ hM cw ⟨sg_Pc_blind, va_recv hC.2.2.2.2.2.2.2.2.2.1 hH.1 hci hw, fun U hU hW => sg_callC hC hH U hU hW⟩ rfl (by rw [List.length_map]; exact hn) hH.2.2.2.2.1.1 rfl (sg_rs_le hrs rfl) hd ⟨Nat.zero_le _, Nat.zero_le _⟩) hH.2.2.1 (fun v G' H1 locs1 hrc hq hP1 hcan1 hS1 => ?_)
  rw [← sg_push_map]
  exact hq p l e R s m args below meth c D cy a H1 locs1 ls hC ⟨hP1, sg_W_D hH.2.1, hS1, hcan1, hH.2.2.2.2.1, hH.2.2.2.2.2.1, sg_push_cv hrc (sg_tl1 hcvr)⟩
/-- a call on a text constant -/
theorem sg_callT {k idx n : Nat} {y' : SgY} {b : Int} {av rest : SgS} (hd : decode y.2.2.1 pc = .ok (.invokevirtual idx, 3)) (hy : sg_CV y' n) (hm : sg_ML y.1 idx y') (hb : 0 ≤ b ∧ b < 6) (hci : y'.2.1.cls = "java/lang/String") (hn : av.length = n) (hsz : sg_sz av + 1 ≤ y'.2.2.2.1) (hk : k < d) (hrs : sg_rs rest ≤ 8) (hst : S = av.reverse ++ (3, b) :: rest)
    (h : sg_Wp lo N k y' 0 (sg_ent 0 ((3, b) :: av)) [] G (fun v G' => sg_Wp lo N d y (pc + 3) L (sg_push y'.2.2.2.2 v rest) G' Q)) : sg_Wp lo N d y pc L S G Q := by
  intro p l e R s m args below meth c D cy a H locs ls hC hH
  subst hst
  obtain ⟨⟨hpl, hcn, hini, hcode, hdd, hmx⟩, hinst, hsel⟩ := hy
  have hcvr : ∀ v ∈ (3, b) :: rest, sg_cv v := fun v hv => hH.sk v (List.mem_append_right _ hv)
  have hcva : ∀ v ∈ (3, b) :: av, sg_cv v := sg_cons (v := (3, b)) trivial (fun v hv => hH.sk v (List.mem_append_left _ (List.mem_reverse.mpr hv)))
  have hM := sg_met hcn hpl (av := (3, b) :: av) (by show 1 + sg_sz av ≤ _; omega) hcva h l D cy a
  have hT : GoodIn sg_GT (wsV (sg_cn y.1) idx y'.2.1.cls y'.2.1 (sg_ws y')) := sg_goodL (fun w hw => by
    unfold wsV at hw
    rcases List.mem_append.mp hw with h1 | h1
    · simp only [List.mem_cons, List.not_mem_nil, or_false] at h1
      rcases h1 with rfl | rfl | rfl | rfl
      · exact hm
      · exact hinst
      · exact hsel
      · exact hini
    · rcases List.mem_cons.mp h1 with h2 | h2
      · rw [h2]; exact hcode
      · exact h2)
  have cw := cwV (R := R) (mc := 0) (ms := 0) n hC.2.2.2.2.2.2.1 hT rfl rfl rfl ⟨rfl, hdd⟩ (sg_room hk hmx hC.2.2.2.2.2.2.2.1 hC.2.2.2.2.2.2.2.2.1)
  have hre := vk_recv hC.2.2.2.2.2.2.2.2.2.2.2.1 (i := b.toNat) (by omega) hH.2.2.1
  rw [← hci] at hre
  rw [List.map_append, List.map_cons, sg_map_rev]
  refine sg_back (va_runV (As := av.map (sg_v a)) (rest := rest.map (sg_v a)) ⟨hC.1, hC.2.1, hC.2.2.1, hC.2.2.2.2.2.1, hC.2.2.2.2.2.2.1⟩ hM cw ⟨sg_Pc_blind, hre, fun U hU hW => sg_callC hC hH U hU hW⟩ rfl (by rw [List.length_map]; exact hn) hH.2.2.2.2.1.1 rfl (sg_rs_le hrs rfl) hd ⟨Nat.zero_le _, Nat.zero_le _⟩) hH.2.2.1 (fun v G' H1 locs1 hrc hq hP1 hcan1 hS1 => ?_)
  rw [← sg_push_map]
  exact hq p l e R s m args below meth c D cy a H1 locs1 ls hC ⟨hP1, sg_W_D hH.2.1, hS1, hcan1, hH.2.2.2.2.1, hH.2.2.2.2.2.1, sg_push_cv hrc (sg_tl1 hcvr)⟩
theorem sg_callS {k idx n : Nat} {y' : SgY} {av rest : SgS} (hd : decode y.2.2.1 pc = .ok (.invokestatic idx, 3)) (hy : sg_CS y' n) (hm : sg_ML y.1 idx y') (hn : av.length = n) (hsz : sg_sz av ≤ y'.2.2.2.1) (hk : k < d) (hrs : sg_rs rest ≤ 8) (hst : S = av.reverse ++ rest)
    (h : sg_Wp lo N k y' 0 (sg_ent 0 av) [] G (fun v G' => sg_Wp lo N d y (pc + 3) L (sg_push y'.2.2.2.2 v rest) G' Q)) : sg_Wp lo N d y pc L S G Q := by
  intro p l e R s m args below meth c D cy a H locs ls hC hH
  subst hst
  obtain ⟨⟨hpl, hcn, hini, hcode, hdd, hmx⟩, hsta⟩ := hy
  have hcvr : ∀ v ∈ rest, sg_cv v := fun v hv => hH.sk v (List.mem_append_right _ hv)
  have hcva : ∀ v ∈ av, sg_cv v := fun v hv => hH.sk v (List.mem_append_left _ (List.mem_reverse.mpr hv))
  have hM := sg_met hcn hpl hsz hcva h l D cy a
  have hT : GoodIn sg_GT (va_wsS (sg_cn y.1) idx y'.2.1 (sg_ws y')) := sg_goodL (fun w hw => by
    unfold va_wsS at hw
    rcases List.mem_append.mp hw with h1 | h1
    · simp only [List.mem_cons, List.not_mem_nil, or_false] at h1
      rcases h1 with rfl | rfl | rfl
      · exact hm
      · exact hsta
      · exact hini
    · rcases List.mem_cons.mp h1 with h2 | h2
      · rw [h2]; exact hcode
      · exact h2)
  have cw := va_cwS (R := R) (mc := 0) (ms := 0) n hC.2.2.2.2.2.2.1 hT rfl rfl rfl hdd (sg_room hk hmx hC.2.2.2.2.2.2.2.1 hC.2.2.2.2.2.2.2.2.1)
  rw [List.map_append, sg_map_rev]
  refine sg_back (va_runS (As := av.map (sg_v a)) (rest := rest.map (sg_v a)) ⟨hC.1, hC.2.1, hC.2.2.1, hC.2.2.2.2.2.1, hC.2.2.2.2.2.2.1⟩ hM cw ⟨sg_Pc_blind, fun U hU hW => sg_callC hC hH U hU hW⟩ rfl (by rw [List.length_map]; exact hn) hH.2.2.2.2.1.1 rfl (sg_rs_le hrs rfl) hd ⟨Nat.zero_le _, Nat.zero_le _⟩) hH.2.2.1 (fun v G' H1 locs1 hrc hq hP1 hcan1 hS1 => ?_)
  rw [← sg_push_map]
  exact hq p l e R s m args below meth c D cy a H1 locs1 ls hC ⟨hP1, sg_W_D hH.2.1, hS1, hcan1, hH.2.2.2.2.1, hH.2.2.2.2.2.1, sg_push_cv hrc hcvr⟩
/-- a call of a private static method of the nest -/
theorem sg_callN {k idx n : Nat} {y' : SgY} {av rest : SgS} (hd : decode y.2.2.1 pc = .ok (.invokestatic idx, 3)) (hy : sg_CS y' n) (hm : (y.1, idx, y'.2.1) ∈ sg_nl) (hn : av.length = n) (hsz : sg_sz av ≤ y'.2.2.2.1) (hk : k < d) (hrs : sg_rs rest ≤ 8) (hst : S = av.reverse ++ rest)
    (h : sg_Wp lo N k y' 0 (sg_ent 0 av) [] G (fun v G' => sg_Wp lo N d y (pc + 3) L (sg_push y'.2.2.2.2 v rest) G' Q)) : sg_Wp lo N d y pc L S G Q := by
  intro p l e R s m args below meth c D cy a H locs ls hC hH
  subst hst
  obtain ⟨⟨hpl, hcn, hini, hcode, hdd, hmx⟩, hsta⟩ := hy
  have hcvr : ∀ v ∈ rest, sg_cv v := fun v hv => hH.sk v (List.mem_append_right _ hv)
  have hcva : ∀ v ∈ av, sg_cv v := fun v hv => hH.sk v (List.mem_append_left _ (List.mem_reverse.mpr hv))
  have hM := sg_met hcn hpl hsz hcva h l D cy a
  have hT : GoodIn sg_GT (sg_ws y') := sg_goodL (fun w hw => by
    rcases List.mem_cons.mp hw with h2 | h2
    · rw [h2]; exact hcode
    · exact h2)
  have hts := hC.2.2.2.2.2.2.1
  have hl : va_Nw (.methodLinkNest (sg_cn y.1) idx y'.2.1 "SneezeGuard") s := hC.2.2.2.2.2.2.2.2.2.2.2.2.2.2.2 (y.1, idx, y'.2.1) hm
  have hst : (Cond.static y'.2.1).before args s = true := hts _ hsta
  have hi : (Cond.initialized y'.2.1.cls).before args s = true := hts _ hini
  have cw : va_CN R s args (sg_cn y.1) idx y'.2.1 "SneezeGuard" y'.2.2.1 y'.2.2.2.1 y'.2.2.2.2 (sg_ws y') (sg_rm k) 0 0 n := va_cnB (ws' := sg_GT) n hts hT rfl rfl rfl hl hi hdd (sg_room hk hmx hC.2.2.2.2.2.2.2.1 hC.2.2.2.2.2.2.2.2.1)
  rw [List.map_append, sg_map_rev]
  refine sg_back (va_runSN (As := av.map (sg_v a)) (rest := rest.map (sg_v a)) ⟨hC.1, hC.2.1, hC.2.2.1, hC.2.2.2.2.2.1, hC.2.2.2.2.2.2.1⟩ hM ⟨cw, hst, trivial⟩ ⟨sg_Pc_blind, fun U hU hW => sg_callC hC hH U hU hW⟩ rfl (by rw [List.length_map]; exact hn) hH.2.2.2.2.1.1 rfl (sg_rs_le hrs rfl) hd ⟨Nat.zero_le _, Nat.zero_le _⟩) hH.2.2.1 (fun v G' H1 locs1 hrc hq hP1 hcan1 hS1 => ?_)
  rw [← sg_push_map]
  exact hq p l e R s m args below meth c D cy a H1 locs1 ls hC ⟨hP1, sg_W_D hH.2.1, hS1, hcan1, hH.2.2.2.2.1, hH.2.2.2.2.2.1, sg_push_cv hrc hcvr⟩
end SgU
end
section
/-! METHODS, CELLS AND CALLS BY NAME (printed by a program) -/
theorem ce_0 {N : Nat} (hN : 44 ≤ N) : sg_Ce 0 N 0 0 4 := ⟨⟨by decide, by omega⟩, by decide +kernel⟩
theorem ce_1 {N : Nat} (hN : 44 ≤ N) : sg_Ce 0 N 1 0 7 := ⟨⟨by decide, by omega⟩, by decide +kernel⟩
theorem ce_2 {N : Nat} (hN : 44 ≤ N) : sg_Ce 0 N 2 1 23 := ⟨⟨by decide, by omega⟩, by decide +kernel⟩
theorem ce_3 {N : Nat} (hN : 44 ≤ N) : sg_Ce 0 N 3 0 7 := ⟨⟨by decide, by omega⟩, by decide +kernel⟩
theorem ce_4 {N : Nat} (hN : 44 ≤ N) : sg_Ce 0 N 4 1 29 := ⟨⟨by decide, by omega⟩, by decide +kernel⟩
theorem ce_5 {N : Nat} (hN : 44 ≤ N) : sg_Ce 0 N 5 0 8 := ⟨⟨by decide, by omega⟩, by decide +kernel⟩
theorem ce_6 {N : Nat} (hN : 44 ≤ N) : sg_Ce 0 N 6 1 8 := ⟨⟨by decide, by omega⟩, by decide +kernel⟩
theorem ce_7 {N : Nat} (hN : 44 ≤ N) : sg_Ce 0 N 7 1 8 := ⟨⟨by decide, by omega⟩, by decide +kernel⟩
theorem ce_8 {N : Nat} (hN : 44 ≤ N) : sg_Ce 0 N 8 1 30 := ⟨⟨by decide, by omega⟩, by decide +kernel⟩
theorem ce_9 {N : Nat} (hN : 44 ≤ N) : sg_Ce 0 N 9 1 6 := ⟨⟨by decide, by omega⟩, by decide +kernel⟩
theorem ce_10 {N : Nat} (hN : 44 ≤ N) : sg_Ce 0 N 10 1 6 := ⟨⟨by decide, by omega⟩, by decide +kernel⟩
theorem ce_11 {N : Nat} (hN : 44 ≤ N) : sg_Ce 0 N 11 1 6 := ⟨⟨by decide, by omega⟩, by decide +kernel⟩
theorem ce_12 {N : Nat} (hN : 44 ≤ N) : sg_Ce 0 N 12 1 6 := ⟨⟨by decide, by omega⟩, by decide +kernel⟩
theorem ce_13 {N : Nat} (hN : 44 ≤ N) : sg_Ce 0 N 13 0 2 := ⟨⟨by decide, by omega⟩, by decide +kernel⟩
theorem ce_14 {N : Nat} (hN : 44 ≤ N) : sg_Ce 0 N 14 1 8 := ⟨⟨by decide, by omega⟩, by decide +kernel⟩
theorem ce_15 {N : Nat} (hN : 44 ≤ N) : sg_Ce 0 N 15 1 8 := ⟨⟨by decide, by omega⟩, by decide +kernel⟩
theorem ce_16 {N : Nat} (hN : 44 ≤ N) : sg_Ce 0 N 16 1 8 := ⟨⟨by decide, by omega⟩, by decide +kernel⟩
theorem ce_17 {N : Nat} (hN : 44 ≤ N) : sg_Ce 0 N 17 0 9 := ⟨⟨by decide, by omega⟩, by decide +kernel⟩
theorem ce_18 {N : Nat} (hN : 44 ≤ N) : sg_Ce 0 N 18 1 24 := ⟨⟨by decide, by omega⟩, by decide +kernel⟩
theorem ce_19 {N : Nat} (hN : 44 ≤ N) : sg_Ce 0 N 19 1 24 := ⟨⟨by decide, by omega⟩, by decide +kernel⟩
theorem ce_20 {N : Nat} (hN : 44 ≤ N) : sg_Ce 0 N 20 2 24 := ⟨⟨by decide, by omega⟩, by decide +kernel⟩
theorem ce_21 {N : Nat} (hN : 44 ≤ N) : sg_Ce 0 N 21 0 1 := ⟨⟨by decide, by omega⟩, by decide +kernel⟩
theorem ce_22 {N : Nat} (hN : 44 ≤ N) : sg_Ce 0 N 22 1 6 := ⟨⟨by decide, by omega⟩, by decide +kernel⟩
theorem ce_23 {N : Nat} (hN : 44 ≤ N) : sg_Ce 0 N 23 1 6 := ⟨⟨by decide, by omega⟩, by decide +kernel⟩
theorem ce_24 {N : Nat} (hN : 44 ≤ N) : sg_Ce 0 N 24 1 6 := ⟨⟨by decide, by omega⟩, by decide +kernel⟩
theorem ce_25 {N : Nat} (hN : 44 ≤ N) : sg_Ce 0 N 25 1 8 := ⟨⟨by decide, by omega⟩, by decide +kernel⟩
theorem ce_26 {N : Nat} (hN : 44 ≤ N) : sg_Ce 0 N 26 1 144 := ⟨⟨by decide, by omega⟩, by decide +kernel⟩
theorem ce_27 {N : Nat} (hN : 44 ≤ N) : sg_Ce 0 N 27 1 144 := ⟨⟨by decide, by omega⟩, by decide +kernel⟩
theorem ce_28 {N : Nat} (hN : 44 ≤ N) : sg_Ce 0 N 28 1 144 := ⟨⟨by decide, by omega⟩, by decide +kernel⟩
theorem ce_29 {N : Nat} (hN : 44 ≤ N) : sg_Ce 0 N 29 1 192 := ⟨⟨by decide, by omega⟩, by decide +kernel⟩
theorem ce_30 {N : Nat} (hN : 44 ≤ N) : sg_Ce 0 N 30 1 24 := ⟨⟨by decide, by omega⟩, by decide +kernel⟩
theorem ce_31 {N : Nat} (hN : 44 ≤ N) : sg_Ce 0 N 31 1 24 := ⟨⟨by decide, by omega⟩, by decide +kernel⟩
theorem ce_32 {N : Nat} (hN : 44 ≤ N) : sg_Ce 0 N 32 0 1 := ⟨⟨by decide, by omega⟩, by decide +kernel⟩
theorem ce_33 {N : Nat} (hN : 44 ≤ N) : sg_Ce 0 N 33 1 6 := ⟨⟨by decide, by omega⟩, by decide +kernel⟩
theorem ce_34 {N : Nat} (hN : 44 ≤ N) : sg_Ce 0 N 34 1 6 := ⟨⟨by decide, by omega⟩, by decide +kernel⟩
theorem ce_35 {N : Nat} (hN : 44 ≤ N) : sg_Ce 0 N 35 1 6 := ⟨⟨by decide, by omega⟩, by decide +kernel⟩
theorem ce_36 {N : Nat} (hN : 44 ≤ N) : sg_Ce 0 N 36 1 8 := ⟨⟨by decide, by omega⟩, by decide +kernel⟩
theorem ce_37 {N : Nat} (hN : 44 ≤ N) : sg_Ce 0 N 37 1 144 := ⟨⟨by decide, by omega⟩, by decide +kernel⟩
theorem ce_38 {N : Nat} (hN : 44 ≤ N) : sg_Ce 0 N 38 1 144 := ⟨⟨by decide, by omega⟩, by decide +kernel⟩
theorem ce_39 {N : Nat} (hN : 44 ≤ N) : sg_Ce 0 N 39 1 144 := ⟨⟨by decide, by omega⟩, by decide +kernel⟩
theorem ce_40 {N : Nat} (hN : 44 ≤ N) : sg_Ce 0 N 40 1 192 := ⟨⟨by decide, by omega⟩, by decide +kernel⟩
theorem ce_41 {N : Nat} (hN : 44 ≤ N) : sg_Ce 0 N 41 1 24 := ⟨⟨by decide, by omega⟩, by decide +kernel⟩
theorem ce_42 {N : Nat} (hN : 44 ≤ N) : sg_Ce 0 N 42 1 24 := ⟨⟨by decide, by omega⟩, by decide +kernel⟩
theorem ce_43 {N : Nat} (hN : 44 ≤ N) : sg_Ce 0 N 43 1 256 := ⟨⟨by decide, by omega⟩, by decide +kernel⟩
theorem ce_44 {N : Nat} (hN : 75 ≤ N) : sg_Ce 0 N 44 0 10 := ⟨⟨by decide, by omega⟩, by decide +kernel⟩
theorem ce_45 {N : Nat} (hN : 75 ≤ N) : sg_Ce 0 N 45 0 5 := ⟨⟨by decide, by omega⟩, by decide +kernel⟩
theorem ce_46 {N : Nat} (hN : 75 ≤ N) : sg_Ce 0 N 46 0 3 := ⟨⟨by decide, by omega⟩, by decide +kernel⟩
theorem ce_47 {N : Nat} (hN : 75 ≤ N) : sg_Ce 0 N 47 1 8 := ⟨⟨by decide, by omega⟩, by decide +kernel⟩
theorem ce_48 {N : Nat} (hN : 75 ≤ N) : sg_Ce 0 N 48 1 8 := ⟨⟨by decide, by omega⟩, by decide +kernel⟩
theorem ce_49 {N : Nat} (hN : 75 ≤ N) : sg_Ce 0 N 49 1 8 := ⟨⟨by decide, by omega⟩, by decide +kernel⟩
theorem ce_50 {N : Nat} (hN : 75 ≤ N) : sg_Ce 0 N 50 4 10 := ⟨⟨by decide, by omega⟩, by decide +kernel⟩
theorem ce_51 {N : Nat} (hN : 75 ≤ N) : sg_Ce 0 N 51 1 24 := ⟨⟨by decide, by omega⟩, by decide +kernel⟩
theorem ce_52 {N : Nat} (hN : 75 ≤ N) : sg_Ce 0 N 52 1 24 := ⟨⟨by decide, by omega⟩, by decide +kernel⟩
theorem ce_53 {N : Nat} (hN : 75 ≤ N) : sg_Ce 0 N 53 1 24 := ⟨⟨by decide, by omega⟩, by decide +kernel⟩
theorem ce_54 {N : Nat} (hN : 75 ≤ N) : sg_Ce 0 N 54 1 24 := ⟨⟨by decide, by omega⟩, by decide +kernel⟩
theorem ce_55 {N : Nat} (hN : 75 ≤ N) : sg_Ce 0 N 55 1 24 := ⟨⟨by decide, by omega⟩, by decide +kernel⟩
theorem ce_56 {N : Nat} (hN : 75 ≤ N) : sg_Ce 0 N 56 1 24 := ⟨⟨by decide, by omega⟩, by decide +kernel⟩
theorem ce_57 {N : Nat} (hN : 75 ≤ N) : sg_Ce 0 N 57 1 24 := ⟨⟨by decide, by omega⟩, by decide +kernel⟩
theorem ce_58 {N : Nat} (hN : 75 ≤ N) : sg_Ce 0 N 58 1 24 := ⟨⟨by decide, by omega⟩, by decide +kernel⟩
theorem ce_59 {N : Nat} (hN : 75 ≤ N) : sg_Ce 0 N 59 1 24 := ⟨⟨by decide, by omega⟩, by decide +kernel⟩
theorem ce_60 {N : Nat} (hN : 75 ≤ N) : sg_Ce 0 N 60 1 24 := ⟨⟨by decide, by omega⟩, by decide +kernel⟩
theorem ce_61 {N : Nat} (hN : 75 ≤ N) : sg_Ce 0 N 61 0 0 := ⟨⟨by decide, by omega⟩, by decide +kernel⟩
theorem ce_62 {N : Nat} (hN : 75 ≤ N) : sg_Ce 0 N 62 3 9 := ⟨⟨by decide, by omega⟩, by decide +kernel⟩
theorem ce_63 {N : Nat} (hN : 75 ≤ N) : sg_Ce 0 N 63 0 2 := ⟨⟨by decide, by omega⟩, by decide +kernel⟩
theorem ce_64 {N : Nat} (hN : 75 ≤ N) : sg_Ce 0 N 64 1 8 := ⟨⟨by decide, by omega⟩, by decide +kernel⟩
theorem ce_65 {N : Nat} (hN : 75 ≤ N) : sg_Ce 0 N 65 1 8 := ⟨⟨by decide, by omega⟩, by decide +kernel⟩
theorem ce_66 {N : Nat} (hN : 75 ≤ N) : sg_Ce 0 N 66 1 8 := ⟨⟨by decide, by omega⟩, by decide +kernel⟩
theorem ce_67 {N : Nat} (hN : 75 ≤ N) : sg_Ce 0 N 67 0 6 := ⟨⟨by decide, by omega⟩, by decide +kernel⟩
theorem ce_68 {N : Nat} (hN : 75 ≤ N) : sg_Ce 0 N 68 1 4 := ⟨⟨by decide, by omega⟩, by decide +kernel⟩
theorem ce_69 {N : Nat} (hN : 75 ≤ N) : sg_Ce 0 N 69 1 4 := ⟨⟨by decide, by omega⟩, by decide +kernel⟩
theorem ce_70 {N : Nat} (hN : 75 ≤ N) : sg_Ce 0 N 70 4 4 := ⟨⟨by decide, by omega⟩, by decide +kernel⟩
theorem ce_71 {N : Nat} (hN : 75 ≤ N) : sg_Ce 0 N 71 1 60 := ⟨⟨by decide, by omega⟩, by decide +kernel⟩
theorem ce_72 {N : Nat} (hN : 75 ≤ N) : sg_Ce 0 N 72 1 60 := ⟨⟨by decide, by omega⟩, by decide +kernel⟩
theorem ce_73 {N : Nat} (hN : 75 ≤ N) : sg_Ce 0 N 73 1 60 := ⟨⟨by decide, by omega⟩, by decide +kernel⟩
theorem ce_74 {N : Nat} (hN : 75 ≤ N) : sg_Ce 0 N 74 1 60 := ⟨⟨by decide, by omega⟩, by decide +kernel⟩
theorem ce_200 : sg_Ce 200 228 200 0 11 := ⟨⟨by decide, by decide⟩, by decide +kernel⟩
theorem ce_201 : sg_Ce 200 228 201 1 4 := ⟨⟨by decide, by decide⟩, by decide +kernel⟩
theorem ce_202 : sg_Ce 200 228 202 1 4 := ⟨⟨by decide, by decide⟩, by decide +kernel⟩
theorem ce_203 : sg_Ce 200 228 203 1 240 := ⟨⟨by decide, by decide⟩, by decide +kernel⟩
theorem ce_204 : sg_Ce 200 228 204 1 60 := ⟨⟨by decide, by decide⟩, by decide +kernel⟩
theorem ce_205 : sg_Ce 200 228 205 1 64 := ⟨⟨by decide, by decide⟩, by decide +kernel⟩
theorem ce_206 : sg_Ce 200 228 206 1 2 := ⟨⟨by decide, by decide⟩, by decide +kernel⟩
theorem ce_207 : sg_Ce 200 228 207 1 16 := ⟨⟨by decide, by decide⟩, by decide +kernel⟩
theorem ce_208 : sg_Ce 200 228 208 1 24 := ⟨⟨by decide, by decide⟩, by decide +kernel⟩
theorem ce_209 : sg_Ce 200 228 209 1 24 := ⟨⟨by decide, by decide⟩, by decide +kernel⟩
theorem ce_210 : sg_Ce 200 228 210 1 6 := ⟨⟨by decide, by decide⟩, by decide +kernel⟩
theorem ce_211 : sg_Ce 200 228 211 1 6 := ⟨⟨by decide, by decide⟩, by decide +kernel⟩
theorem ce_212 : sg_Ce 200 228 212 1 6 := ⟨⟨by decide, by decide⟩, by decide +kernel⟩
theorem ce_213 : sg_Ce 200 228 213 2 6 := ⟨⟨by decide, by decide⟩, by decide +kernel⟩
theorem ce_214 : sg_Ce 200 228 214 1 6 := ⟨⟨by decide, by decide⟩, by decide +kernel⟩
theorem ce_215 : sg_Ce 200 228 215 1 6 := ⟨⟨by decide, by decide⟩, by decide +kernel⟩
theorem ce_216 : sg_Ce 200 228 216 1 8 := ⟨⟨by decide, by decide⟩, by decide +kernel⟩
theorem ce_217 : sg_Ce 200 228 217 1 8 := ⟨⟨by decide, by decide⟩, by decide +kernel⟩
theorem ce_218 : sg_Ce 200 228 218 1 192 := ⟨⟨by decide, by decide⟩, by decide +kernel⟩
theorem ce_219 : sg_Ce 200 228 219 1 192 := ⟨⟨by decide, by decide⟩, by decide +kernel⟩
theorem ce_220 : sg_Ce 200 228 220 1 192 := ⟨⟨by decide, by decide⟩, by decide +kernel⟩
theorem ce_221 : sg_Ce 200 228 221 1 192 := ⟨⟨by decide, by decide⟩, by decide +kernel⟩
theorem ce_222 : sg_Ce 200 228 222 1 192 := ⟨⟨by decide, by decide⟩, by decide +kernel⟩
theorem ce_223 : sg_Ce 200 228 223 1 192 := ⟨⟨by decide, by decide⟩, by decide +kernel⟩
theorem ce_224 : sg_Ce 200 228 224 1 192 := ⟨⟨by decide, by decide⟩, by decide +kernel⟩
theorem ce_225 : sg_Ce 200 228 225 1 24 := ⟨⟨by decide, by decide⟩, by decide +kernel⟩
theorem ce_226 : sg_Ce 200 228 226 1 240 := ⟨⟨by decide, by decide⟩, by decide +kernel⟩
theorem ce_227 : sg_Ce 200 228 227 1 24 := ⟨⟨by decide, by decide⟩, by decide +kernel⟩
theorem rr_0_0 : sg_rr 0 0 = 1 := by decide +kernel
theorem rr_0_1 : sg_rr 0 1 = 3 := by decide +kernel
theorem rr_0_2 : sg_rr 0 2 = 5 := by decide +kernel
theorem rr_0_3 : sg_rr 0 3 = 13 := by decide +kernel
theorem rr_0_4 : sg_rr 0 4 = 17 := by decide +kernel
theorem rr_0_5 : sg_rr 0 5 = 21 := by decide +kernel
theorem rr_0_6 : sg_rr 0 6 = 32 := by decide +kernel
theorem rr_0_7 : sg_rr 0 7 = 43 := by decide +kernel
theorem rr_1_2 : sg_rr 1 2 = 2 := by decide +kernel
theorem rr_3_2 : sg_rr 3 2 = 4 := by decide +kernel
theorem rr_5_1 : sg_rr 5 1 = 6 := by decide +kernel
theorem rr_5_2 : sg_rr 5 2 = 7 := by decide +kernel
theorem rr_5_3 : sg_rr 5 3 = 8 := by decide +kernel
theorem rr_5_5 : sg_rr 5 5 = 9 := by decide +kernel
theorem rr_5_6 : sg_rr 5 6 = 10 := by decide +kernel
theorem rr_5_7 : sg_rr 5 7 = 11 := by decide +kernel
theorem rr_5_8 : sg_rr 5 8 = 12 := by decide +kernel
theorem rr_13_1 : sg_rr 13 1 = 14 := by decide +kernel
theorem rr_13_2 : sg_rr 13 2 = 15 := by decide +kernel
theorem rr_13_3 : sg_rr 13 3 = 16 := by decide +kernel
theorem rr_17_0 : sg_rr 17 0 = 18 := by decide +kernel
theorem rr_17_1 : sg_rr 17 1 = 19 := by decide +kernel
theorem rr_17_2 : sg_rr 17 2 = 20 := by decide +kernel
theorem rr_21_0 : sg_rr 21 0 = 5 := by decide +kernel
theorem rr_21_1 : sg_rr 21 1 = 17 := by decide +kernel
theorem rr_21_2 : sg_rr 21 2 = 22 := by decide +kernel
theorem rr_21_3 : sg_rr 21 3 = 23 := by decide +kernel
theorem rr_21_4 : sg_rr 21 4 = 24 := by decide +kernel
theorem rr_21_5 : sg_rr 21 5 = 25 := by decide +kernel
theorem rr_21_6 : sg_rr 21 6 = 26 := by decide +kernel
theorem rr_21_7 : sg_rr 21 7 = 27 := by decide +kernel
theorem rr_21_8 : sg_rr 21 8 = 28 := by decide +kernel
theorem rr_21_9 : sg_rr 21 9 = 29 := by decide +kernel
theorem rr_21_10 : sg_rr 21 10 = 30 := by decide +kernel
theorem rr_21_11 : sg_rr 21 11 = 31 := by decide +kernel
theorem rr_32_0 : sg_rr 32 0 = 5 := by decide +kernel
theorem rr_32_1 : sg_rr 32 1 = 17 := by decide +kernel
theorem rr_32_2 : sg_rr 32 2 = 33 := by decide +kernel
theorem rr_32_3 : sg_rr 32 3 = 34 := by decide +kernel
theorem rr_32_4 : sg_rr 32 4 = 35 := by decide +kernel
theorem rr_32_5 : sg_rr 32 5 = 36 := by decide +kernel
theorem rr_32_6 : sg_rr 32 6 = 37 := by decide +kernel
theorem rr_32_7 : sg_rr 32 7 = 38 := by decide +kernel
theorem rr_32_8 : sg_rr 32 8 = 39 := by decide +kernel
theorem rr_32_9 : sg_rr 32 9 = 40 := by decide +kernel
theorem rr_32_10 : sg_rr 32 10 = 41 := by decide +kernel
theorem rr_32_11 : sg_rr 32 11 = 42 := by decide +kernel
theorem rr_44_0 : sg_rr 44 0 = 0 := by decide +kernel
theorem rr_44_1 : sg_rr 44 1 = 45 := by decide +kernel
theorem rr_44_2 : sg_rr 44 2 = 46 := by decide +kernel
theorem rr_44_3 : sg_rr 44 3 = 61 := by decide +kernel
theorem rr_44_4 : sg_rr 44 4 = 67 := by decide +kernel
theorem rr_45_0 : sg_rr 45 0 = 0 := by decide +kernel
theorem rr_46_0 : sg_rr 46 0 = 0 := by decide +kernel
theorem rr_46_2 : sg_rr 46 2 = 47 := by decide +kernel
theorem rr_46_3 : sg_rr 46 3 = 48 := by decide +kernel
theorem rr_46_4 : sg_rr 46 4 = 49 := by decide +kernel
theorem rr_46_5 : sg_rr 46 5 = 50 := by decide +kernel
theorem rr_61_0 : sg_rr 61 0 = 0 := by decide +kernel
theorem rr_61_1 : sg_rr 61 1 = 63 := by decide +kernel
theorem rr_61_2 : sg_rr 61 2 = 62 := by decide +kernel
theorem rr_63_1 : sg_rr 63 1 = 64 := by decide +kernel
theorem rr_63_2 : sg_rr 63 2 = 65 := by decide +kernel
theorem rr_63_3 : sg_rr 63 3 = 66 := by decide +kernel
theorem rr_67_0 : sg_rr 67 0 = 68 := by decide +kernel
theorem rr_67_1 : sg_rr 67 1 = 69 := by decide +kernel
theorem rr_67_2 : sg_rr 67 2 = 70 := by decide +kernel
theorem rr_200_0 : sg_rr 200 0 = 201 := by decide +kernel
theorem rr_200_1 : sg_rr 200 1 = 202 := by decide +kernel
theorem rr_200_2 : sg_rr 200 2 = 203 := by decide +kernel
theorem rr_200_3 : sg_rr 200 3 = 204 := by decide +kernel
theorem rr_200_5 : sg_rr 200 5 = 205 := by decide +kernel
theorem rr_200_6 : sg_rr 200 6 = 206 := by decide +kernel
theorem rr_200_8 : sg_rr 200 8 = 207 := by decide +kernel
theorem rr_200_10 : sg_rr 200 10 = 208 := by decide +kernel
theorem rr_200_12 : sg_rr 200 12 = 209 := by decide +kernel
theorem rr_200_17 : sg_rr 200 17 = 210 := by decide +kernel
theorem rr_200_18 : sg_rr 200 18 = 211 := by decide +kernel
theorem rr_200_19 : sg_rr 200 19 = 212 := by decide +kernel
theorem rr_200_20 : sg_rr 200 20 = 213 := by decide +kernel
theorem rr_200_21 : sg_rr 200 21 = 214 := by decide +kernel
theorem rr_200_22 : sg_rr 200 22 = 215 := by decide +kernel
theorem rr_200_23 : sg_rr 200 23 = 216 := by decide +kernel
theorem rr_200_24 : sg_rr 200 24 = 217 := by decide +kernel
theorem rr_200_25 : sg_rr 200 25 = 218 := by decide +kernel
theorem rr_200_26 : sg_rr 200 26 = 219 := by decide +kernel
theorem rr_200_27 : sg_rr 200 27 = 220 := by decide +kernel
theorem rr_200_28 : sg_rr 200 28 = 221 := by decide +kernel
theorem rr_200_29 : sg_rr 200 29 = 222 := by decide +kernel
theorem rr_200_30 : sg_rr 200 30 = 223 := by decide +kernel
theorem rr_200_31 : sg_rr 200 31 = 224 := by decide +kernel
theorem rr_200_33 : sg_rr 200 33 = 225 := by decide +kernel
theorem rr_200_34 : sg_rr 200 34 = 226 := by decide +kernel
theorem rr_200_36 : sg_rr 200 36 = 227 := by decide +kernel
theorem qb_50 : sg_qb 50 = 51 := by decide +kernel
theorem qb_70 : sg_qb 70 = 71 := by decide +kernel
theorem ce_items {N : Nat} (hN : 75 ≤ N) {s : Int} (h0 : 0 ≤ s) (h1 : s < 4) : sg_Ce 0 N (71 + s) 1 60 := by
  have : s = 0 ∨ s = 1 ∨ s = 2 ∨ s = 3 := by omega
  rcases this with rfl | rfl | rfl | rfl
  · exact ce_71 hN
  · exact ce_72 hN
  · exact ce_73 hN
  · exact ce_74 hN
theorem ce_byCold {N : Nat} (hN : 75 ≤ N) {s : Int} (h0 : 0 ≤ s) (h1 : s < 10) : sg_Ce 0 N (51 + s) 1 24 := by
  have : s = 0 ∨ s = 1 ∨ s = 2 ∨ s = 3 ∨ s = 4 ∨ s = 5 ∨ s = 6 ∨ s = 7 ∨ s = 8 ∨ s = 9 := by omega
  rcases this with rfl | rfl | rfl | rfl | rfl | rfl | rfl | rfl | rfl | rfl
  · exact ce_51 hN
  · exact ce_52 hN
  · exact ce_53 hN
  · exact ce_54 hN
  · exact ce_55 hN
  · exact ce_56 hN
  · exact ce_57 hN
  · exact ce_58 hN
  · exact ce_59 hN
  · exact ce_60 hN
theorem sg_inP {w : Cond} (h : w ∈ k2_sels lw_privs) (hg : goodWord w = true) : w ∈ sg_GT := List.mem_filter.mpr ⟨List.mem_append_left _ h, hg⟩
def m_A_fill : SgY := (27, yJ7_fill_53178, cJ7_fill_53178, 4, none)
set_option maxRecDepth 100000 in
theorem cw_A_fill : Cond.code m_A_fill.2.1 m_A_fill.2.2.1 m_A_fill.2.2.2.1 m_A_fill.2.2.2.2 ∈ sg_GT := sg_inGT (List.mem_of_getElem? (i := 394) rfl) rfl
theorem cy_A_fill : sg_CY m_A_fill 2 := ⟨by decide +kernel, rfl, sg_inGT (List.mem_of_getElem? (i := 14) (by decide +kernel)) rfl, cw_A_fill, ⟨by decide +kernel, by decide +kernel, by decide +kernel⟩, by decide⟩
theorem cs_A_fill : sg_CS m_A_fill 2 := ⟨cy_A_fill, sg_inGT (List.mem_of_getElem? (i := 393) (by decide +kernel)) rfl⟩
def m_C_dayByLots : SgY := (0, yX0_dayByLots, cX0_dayByLots, 7, some (.object "SneezeGuard$Day"))
set_option maxRecDepth 100000 in
theorem cw_C_dayByLots : Cond.code m_C_dayByLots.2.1 m_C_dayByLots.2.2.1 m_C_dayByLots.2.2.2.1 m_C_dayByLots.2.2.2.2 ∈ sg_GT := sg_inGT (List.mem_of_getElem? (i := 861) rfl) rfl
theorem cy_C_dayByLots : sg_CY m_C_dayByLots 2 := ⟨by decide +kernel, rfl, sg_inGT (List.mem_of_getElem? (i := 18) (by decide +kernel)) rfl, cw_C_dayByLots, ⟨by decide +kernel, by decide +kernel, by decide +kernel⟩, by decide⟩
theorem cv_C_dayByLots : sg_CV m_C_dayByLots 2 := ⟨cy_C_dayByLots, sg_inGT (List.mem_of_getElem? (i := 859) (by decide +kernel)) rfl, sg_inGT (List.mem_of_getElem? (i := 860) (by decide +kernel)) rfl⟩
def m_C_fraction : SgY := (0, yX0_fraction, cX0_fraction, 10, some .long)
set_option maxRecDepth 100000 in
theorem cw_C_fraction : Cond.code m_C_fraction.2.1 m_C_fraction.2.2.1 m_C_fraction.2.2.2.1 m_C_fraction.2.2.2.2 ∈ sg_GT := sg_inGT (List.mem_of_getElem? (i := 845) rfl) rfl
theorem cy_C_fraction : sg_CY m_C_fraction 3 := ⟨by decide +kernel, rfl, sg_inGT (List.mem_of_getElem? (i := 18) (by decide +kernel)) rfl, cw_C_fraction, ⟨by decide +kernel, by decide +kernel, by decide +kernel⟩, by decide⟩
theorem cv_C_fraction : sg_CV m_C_fraction 3 := ⟨cy_C_fraction, sg_inGT (List.mem_of_getElem? (i := 843) (by decide +kernel)) rfl, sg_inGT (List.mem_of_getElem? (i := 844) (by decide +kernel)) rfl⟩
def m_C_lotOf : SgY := (0, yX0_lotOf, cX0_lotOf, 2, some .int)
set_option maxRecDepth 100000 in
theorem cw_C_lotOf : Cond.code m_C_lotOf.2.1 m_C_lotOf.2.2.1 m_C_lotOf.2.2.2.1 m_C_lotOf.2.2.2.2 ∈ sg_GT := sg_inGT (List.mem_of_getElem? (i := 865) rfl) rfl
theorem cy_C_lotOf : sg_CY m_C_lotOf 1 := ⟨by decide +kernel, rfl, sg_inGT (List.mem_of_getElem? (i := 18) (by decide +kernel)) rfl, cw_C_lotOf, ⟨by decide +kernel, by decide +kernel, by decide +kernel⟩, by decide⟩
theorem cv_C_lotOf : sg_CV m_C_lotOf 1 := ⟨cy_C_lotOf, sg_inGT (List.mem_of_getElem? (i := 864) (by decide +kernel)) rfl, sg_inP (List.mem_of_getElem? (i := 17) (by decide +kernel)) rfl⟩
def m_C_weigh : SgY := (0, yX0_weigh, cX0_weigh, 7, none)
set_option maxRecDepth 100000 in
theorem cw_C_weigh : Cond.code m_C_weigh.2.1 m_C_weigh.2.2.1 m_C_weigh.2.2.2.1 m_C_weigh.2.2.2.2 ∈ sg_GT := sg_inGT (List.mem_of_getElem? (i := 849) rfl) rfl
theorem cy_C_weigh : sg_CY m_C_weigh 2 := ⟨by decide +kernel, rfl, sg_inGT (List.mem_of_getElem? (i := 18) (by decide +kernel)) rfl, cw_C_weigh, ⟨by decide +kernel, by decide +kernel, by decide +kernel⟩, by decide⟩
theorem cv_C_weigh : sg_CV m_C_weigh 2 := ⟨cy_C_weigh, sg_inGT (List.mem_of_getElem? (i := 848) (by decide +kernel)) rfl, sg_inP (List.mem_of_getElem? (i := 16) (by decide +kernel)) rfl⟩
def m_D_begin : SgY := (1, yX1_begin, cX1_begin, 2, none)
set_option maxRecDepth 100000 in
theorem cw_D_begin : Cond.code m_D_begin.2.1 m_D_begin.2.2.1 m_D_begin.2.2.2.1 m_D_begin.2.2.2.2 ∈ sg_GT := sg_inGT (List.mem_of_getElem? (i := 402) rfl) rfl
theorem cy_D_begin : sg_CY m_D_begin 0 := ⟨by decide +kernel, rfl, sg_inGT (List.mem_of_getElem? (i := 7) (by decide +kernel)) rfl, cw_D_begin, ⟨by decide +kernel, by decide +kernel, by decide +kernel⟩, by decide⟩
theorem cv_D_begin : sg_CV m_D_begin 0 := ⟨cy_D_begin, sg_inGT (List.mem_of_getElem? (i := 401) (by decide +kernel)) rfl, sg_inP (List.mem_of_getElem? (i := 3) (by decide +kernel)) rfl⟩
def m_D_busiest : SgY := (1, yX1_busiest, cX1_busiest, 6, some .int)
set_option maxRecDepth 100000 in
theorem cw_D_busiest : Cond.code m_D_busiest.2.1 m_D_busiest.2.2.1 m_D_busiest.2.2.2.1 m_D_busiest.2.2.2.2 ∈ sg_GT := sg_inGT (List.mem_of_getElem? (i := 725) rfl) rfl
theorem cy_D_busiest : sg_CY m_D_busiest 0 := ⟨by decide +kernel, rfl, sg_inGT (List.mem_of_getElem? (i := 7) (by decide +kernel)) rfl, cw_D_busiest, ⟨by decide +kernel, by decide +kernel, by decide +kernel⟩, by decide⟩
theorem cv_D_busiest : sg_CV m_D_busiest 0 := ⟨cy_D_busiest, sg_inGT (List.mem_of_getElem? (i := 723) (by decide +kernel)) rfl, sg_inGT (List.mem_of_getElem? (i := 724) (by decide +kernel)) rfl⟩
def m_D_changeGuard : SgY := (1, yX1_changeGuard, cX1_changeGuard, 5, none)
set_option maxRecDepth 100000 in
theorem cw_D_changeGuard : Cond.code m_D_changeGuard.2.1 m_D_changeGuard.2.2.1 m_D_changeGuard.2.2.2.1 m_D_changeGuard.2.2.2.2 ∈ sg_GT := sg_inGT (List.mem_of_getElem? (i := 420) rfl) rfl
theorem cy_D_changeGuard : sg_CY m_D_changeGuard 1 := ⟨by decide +kernel, rfl, sg_inGT (List.mem_of_getElem? (i := 7) (by decide +kernel)) rfl, cw_D_changeGuard, ⟨by decide +kernel, by decide +kernel, by decide +kernel⟩, by decide⟩
theorem cv_D_changeGuard : sg_CV m_D_changeGuard 1 := ⟨cy_D_changeGuard, sg_inGT (List.mem_of_getElem? (i := 419) (by decide +kernel)) rfl, sg_inP (List.mem_of_getElem? (i := 6) (by decide +kernel)) rfl⟩
def m_D_changerOf : SgY := (1, yX1_changerOf, cX1_changerOf, 4, some .int)
set_option maxRecDepth 100000 in
theorem cw_D_changerOf : Cond.code m_D_changerOf.2.1 m_D_changerOf.2.2.1 m_D_changerOf.2.2.2.1 m_D_changerOf.2.2.2.2 ∈ sg_GT := sg_inGT (List.mem_of_getElem? (i := 701) rfl) rfl
theorem cy_D_changerOf : sg_CY m_D_changerOf 2 := ⟨by decide +kernel, rfl, sg_inGT (List.mem_of_getElem? (i := 7) (by decide +kernel)) rfl, cw_D_changerOf, ⟨by decide +kernel, by decide +kernel, by decide +kernel⟩, by decide⟩
theorem cv_D_changerOf : sg_CV m_D_changerOf 2 := ⟨cy_D_changerOf, sg_inGT (List.mem_of_getElem? (i := 699) (by decide +kernel)) rfl, sg_inGT (List.mem_of_getElem? (i := 700) (by decide +kernel)) rfl⟩
def m_D_divides : SgY := (1, yX1_divides, cX1_divides, 2, some .boolean)
set_option maxRecDepth 100000 in
theorem cw_D_divides : Cond.code m_D_divides.2.1 m_D_divides.2.2.1 m_D_divides.2.2.2.1 m_D_divides.2.2.2.2 ∈ sg_GT := sg_inGT (List.mem_of_getElem? (i := 416) rfl) rfl
theorem cy_D_divides : sg_CY m_D_divides 2 := ⟨by decide +kernel, rfl, sg_inGT (List.mem_of_getElem? (i := 7) (by decide +kernel)) rfl, cw_D_divides, ⟨by decide +kernel, by decide +kernel, by decide +kernel⟩, by decide⟩
theorem cs_D_divides : sg_CS m_D_divides 2 := ⟨cy_D_divides, sg_inGT (List.mem_of_getElem? (i := 415) (by decide +kernel)) rfl⟩
def m_D_othersInCellOf : SgY := (1, yX1_othersInCellOf, cX1_othersInCellOf, 4, some .int)
set_option maxRecDepth 100000 in
theorem cw_D_othersInCellOf : Cond.code m_D_othersInCellOf.2.1 m_D_othersInCellOf.2.2.1 m_D_othersInCellOf.2.2.2.1 m_D_othersInCellOf.2.2.2.2 ∈ sg_GT := sg_inGT (List.mem_of_getElem? (i := 442) rfl) rfl
theorem cy_D_othersInCellOf : sg_CY m_D_othersInCellOf 1 := ⟨by decide +kernel, rfl, sg_inGT (List.mem_of_getElem? (i := 7) (by decide +kernel)) rfl, cw_D_othersInCellOf, ⟨by decide +kernel, by decide +kernel, by decide +kernel⟩, by decide⟩
theorem cv_D_othersInCellOf : sg_CV m_D_othersInCellOf 1 := ⟨cy_D_othersInCellOf, sg_inGT (List.mem_of_getElem? (i := 441) (by decide +kernel)) rfl, sg_inP (List.mem_of_getElem? (i := 9) (by decide +kernel)) rfl⟩
def m_D_pass : SgY := (1, yX1_pass, cX1_pass, 2, none)
set_option maxRecDepth 100000 in
theorem cw_D_pass : Cond.code m_D_pass.2.1 m_D_pass.2.2.1 m_D_pass.2.2.2.1 m_D_pass.2.2.2.2 ∈ sg_GT := sg_inGT (List.mem_of_getElem? (i := 398) rfl) rfl
theorem cy_D_pass : sg_CY m_D_pass 0 := ⟨by decide +kernel, rfl, sg_inGT (List.mem_of_getElem? (i := 7) (by decide +kernel)) rfl, cw_D_pass, ⟨by decide +kernel, by decide +kernel, by decide +kernel⟩, by decide⟩
theorem cv_D_pass : sg_CV m_D_pass 0 := ⟨cy_D_pass, sg_inGT (List.mem_of_getElem? (i := 396) (by decide +kernel)) rfl, sg_inGT (List.mem_of_getElem? (i := 397) (by decide +kernel)) rfl⟩
def m_D_silent : SgY := (1, yX1_silent, cX1_silent, 3, some .int)
set_option maxRecDepth 100000 in
theorem cw_D_silent : Cond.code m_D_silent.2.1 m_D_silent.2.2.1 m_D_silent.2.2.2.1 m_D_silent.2.2.2.2 ∈ sg_GT := sg_inGT (List.mem_of_getElem? (i := 733) rfl) rfl
theorem cy_D_silent : sg_CY m_D_silent 0 := ⟨by decide +kernel, rfl, sg_inGT (List.mem_of_getElem? (i := 7) (by decide +kernel)) rfl, cw_D_silent, ⟨by decide +kernel, by decide +kernel, by decide +kernel⟩, by decide⟩
theorem cv_D_silent : sg_CV m_D_silent 0 := ⟨cy_D_silent, sg_inGT (List.mem_of_getElem? (i := 731) (by decide +kernel)) rfl, sg_inGT (List.mem_of_getElem? (i := 732) (by decide +kernel)) rfl⟩
def m_D_sneeze : SgY := (1, yX1_sneeze, cX1_sneeze, 4, none)
set_option maxRecDepth 100000 in
theorem cw_D_sneeze : Cond.code m_D_sneeze.2.1 m_D_sneeze.2.2.1 m_D_sneeze.2.2.2.1 m_D_sneeze.2.2.2.2 ∈ sg_GT := sg_inGT (List.mem_of_getElem? (i := 412) rfl) rfl
theorem cy_D_sneeze : sg_CY m_D_sneeze 1 := ⟨by decide +kernel, rfl, sg_inGT (List.mem_of_getElem? (i := 7) (by decide +kernel)) rfl, cw_D_sneeze, ⟨by decide +kernel, by decide +kernel, by decide +kernel⟩, by decide⟩
theorem cv_D_sneeze : sg_CV m_D_sneeze 1 := ⟨cy_D_sneeze, sg_inGT (List.mem_of_getElem? (i := 411) (by decide +kernel)) rfl, sg_inP (List.mem_of_getElem? (i := 5) (by decide +kernel)) rfl⟩
def m_D_spreadColds : SgY := (1, yX1_spreadColds, cX1_spreadColds, 4, none)
set_option maxRecDepth 100000 in
theorem cw_D_spreadColds : Cond.code m_D_spreadColds.2.1 m_D_spreadColds.2.2.1 m_D_spreadColds.2.2.2.1 m_D_spreadColds.2.2.2.2 ∈ sg_GT := sg_inGT (List.mem_of_getElem? (i := 438) rfl) rfl
theorem cy_D_spreadColds : sg_CY m_D_spreadColds 1 := ⟨by decide +kernel, rfl, sg_inGT (List.mem_of_getElem? (i := 7) (by decide +kernel)) rfl, cw_D_spreadColds, ⟨by decide +kernel, by decide +kernel, by decide +kernel⟩, by decide⟩
theorem cv_D_spreadColds : sg_CV m_D_spreadColds 1 := ⟨cy_D_spreadColds, sg_inGT (List.mem_of_getElem? (i := 437) (by decide +kernel)) rfl, sg_inP (List.mem_of_getElem? (i := 8) (by decide +kernel)) rfl⟩
def m_D_stand : SgY := (1, yX1_stand, cX1_stand, 3, none)
set_option maxRecDepth 100000 in
theorem cw_D_stand : Cond.code m_D_stand.2.1 m_D_stand.2.2.1 m_D_stand.2.2.2.1 m_D_stand.2.2.2.2 ∈ sg_GT := sg_inGT (List.mem_of_getElem? (i := 434) rfl) rfl
theorem cy_D_stand : sg_CY m_D_stand 1 := ⟨by decide +kernel, rfl, sg_inGT (List.mem_of_getElem? (i := 7) (by decide +kernel)) rfl, cw_D_stand, ⟨by decide +kernel, by decide +kernel, by decide +kernel⟩, by decide⟩
theorem cv_D_stand : sg_CV m_D_stand 1 := ⟨cy_D_stand, sg_inGT (List.mem_of_getElem? (i := 433) (by decide +kernel)) rfl, sg_inP (List.mem_of_getElem? (i := 7) (by decide +kernel)) rfl⟩
def m_D_walk : SgY := (1, yX1_walk, cX1_walk, 3, none)
set_option maxRecDepth 100000 in
theorem cw_D_walk : Cond.code m_D_walk.2.1 m_D_walk.2.2.1 m_D_walk.2.2.2.1 m_D_walk.2.2.2.2 ∈ sg_GT := sg_inGT (List.mem_of_getElem? (i := 407) rfl) rfl
theorem cy_D_walk : sg_CY m_D_walk 1 := ⟨by decide +kernel, rfl, sg_inGT (List.mem_of_getElem? (i := 7) (by decide +kernel)) rfl, cw_D_walk, ⟨by decide +kernel, by decide +kernel, by decide +kernel⟩, by decide⟩
theorem cv_D_walk : sg_CV m_D_walk 1 := ⟨cy_D_walk, sg_inGT (List.mem_of_getElem? (i := 406) (by decide +kernel)) rfl, sg_inP (List.mem_of_getElem? (i := 4) (by decide +kernel)) rfl⟩
def m_E_add : SgY := (2, yX2_add, cX2_add, 4, some .boolean)
set_option maxRecDepth 100000 in
theorem cw_E_add : Cond.code m_E_add.2.1 m_E_add.2.2.1 m_E_add.2.2.2.1 m_E_add.2.2.2.2 ∈ sg_GT := sg_inGT (List.mem_of_getElem? (i := 660) rfl) rfl
theorem cy_E_add : sg_CY m_E_add 3 := ⟨by decide +kernel, rfl, sg_inGT (List.mem_of_getElem? (i := 5) (by decide +kernel)) rfl, cw_E_add, ⟨by decide +kernel, by decide +kernel, by decide +kernel⟩, by decide⟩
theorem cv_E_add : sg_CV m_E_add 3 := ⟨cy_E_add, sg_inGT (List.mem_of_getElem? (i := 658) (by decide +kernel)) rfl, sg_inGT (List.mem_of_getElem? (i := 659) (by decide +kernel)) rfl⟩
def m_E_everyBit : SgY := (2, yX2_everyBit, cX2_everyBit, 1, some .int)
set_option maxRecDepth 100000 in
theorem cw_E_everyBit : Cond.code m_E_everyBit.2.1 m_E_everyBit.2.2.1 m_E_everyBit.2.2.2.1 m_E_everyBit.2.2.2.2 ∈ sg_GT := sg_inGT (List.mem_of_getElem? (i := 379) rfl) rfl
theorem cy_E_everyBit : sg_CY m_E_everyBit 0 := ⟨by decide +kernel, rfl, sg_inGT (List.mem_of_getElem? (i := 5) (by decide +kernel)) rfl, cw_E_everyBit, ⟨by decide +kernel, by decide +kernel, by decide +kernel⟩, by decide⟩
theorem cv_E_everyBit : sg_CV m_E_everyBit 0 := ⟨cy_E_everyBit, sg_inGT (List.mem_of_getElem? (i := 377) (by decide +kernel)) rfl, sg_inGT (List.mem_of_getElem? (i := 378) (by decide +kernel)) rfl⟩
def m_E_mayBe : SgY := (2, yX2_mayBe, cX2_mayBe, 3, some .boolean)
set_option maxRecDepth 100000 in
theorem cw_E_mayBe : Cond.code m_E_mayBe.2.1 m_E_mayBe.2.2.1 m_E_mayBe.2.2.2.1 m_E_mayBe.2.2.2.2 ∈ sg_GT := sg_inGT (List.mem_of_getElem? (i := 655) rfl) rfl
theorem cy_E_mayBe : sg_CY m_E_mayBe 3 := ⟨by decide +kernel, rfl, sg_inGT (List.mem_of_getElem? (i := 5) (by decide +kernel)) rfl, cw_E_mayBe, ⟨by decide +kernel, by decide +kernel, by decide +kernel⟩, by decide⟩
theorem cs_E_mayBe : sg_CS m_E_mayBe 3 := ⟨cy_E_mayBe, sg_inGT (List.mem_of_getElem? (i := 654) (by decide +kernel)) rfl⟩
def m_G_all : SgY := (10, yX10_all, cX10_all, 1, some .int)
set_option maxRecDepth 100000 in
theorem cw_G_all : Cond.code m_G_all.2.1 m_G_all.2.2.1 m_G_all.2.2.2.1 m_G_all.2.2.2.2 ∈ sg_GT := sg_inGT (List.mem_of_getElem? (i := 717) rfl) rfl
theorem cy_G_all : sg_CY m_G_all 0 := ⟨by decide +kernel, rfl, sg_inGT (List.mem_of_getElem? (i := 1) (by decide +kernel)) rfl, cw_G_all, ⟨by decide +kernel, by decide +kernel, by decide +kernel⟩, by decide⟩
theorem cv_G_all : sg_CV m_G_all 0 := ⟨cy_G_all, sg_inGT (List.mem_of_getElem? (i := 715) (by decide +kernel)) rfl, sg_inGT (List.mem_of_getElem? (i := 716) (by decide +kernel)) rfl⟩
def m_G_ask : SgY := (10, yX10_ask, cX10_ask, 2, some .int)
set_option maxRecDepth 100000 in
theorem cw_G_ask : Cond.code m_G_ask.2.1 m_G_ask.2.2.1 m_G_ask.2.2.2.1 m_G_ask.2.2.2.2 ∈ sg_GT := sg_inGT (List.mem_of_getElem? (i := 825) rfl) rfl
theorem cy_G_ask : sg_CY m_G_ask 1 := ⟨by decide +kernel, rfl, sg_inGT (List.mem_of_getElem? (i := 1) (by decide +kernel)) rfl, cw_G_ask, ⟨by decide +kernel, by decide +kernel, by decide +kernel⟩, by decide⟩
theorem cv_G_ask : sg_CV m_G_ask 1 := ⟨cy_G_ask, sg_inGT (List.mem_of_getElem? (i := 823) (by decide +kernel)) rfl, sg_inGT (List.mem_of_getElem? (i := 824) (by decide +kernel)) rfl⟩
def m_G_at : SgY := (10, yX10_at, cX10_at, 4, some .int)
set_option maxRecDepth 100000 in
theorem cw_G_at : Cond.code m_G_at.2.1 m_G_at.2.2.1 m_G_at.2.2.2.1 m_G_at.2.2.2.2 ∈ sg_GT := sg_inGT (List.mem_of_getElem? (i := 690) rfl) rfl
theorem cy_G_at : sg_CY m_G_at 3 := ⟨by decide +kernel, rfl, sg_inGT (List.mem_of_getElem? (i := 1) (by decide +kernel)) rfl, cw_G_at, ⟨by decide +kernel, by decide +kernel, by decide +kernel⟩, by decide⟩
theorem cv_G_at : sg_CV m_G_at 3 := ⟨cy_G_at, sg_inGT (List.mem_of_getElem? (i := 688) (by decide +kernel)) rfl, sg_inGT (List.mem_of_getElem? (i := 689) (by decide +kernel)) rfl⟩
def m_G_back : SgY := (10, yX10_back, cX10_back, 1, some .int)
set_option maxRecDepth 100000 in
theorem cw_G_back : Cond.code m_G_back.2.1 m_G_back.2.2.1 m_G_back.2.2.2.1 m_G_back.2.2.2.2 ∈ sg_GT := sg_inGT (List.mem_of_getElem? (i := 664) rfl) rfl
theorem cy_G_back : sg_CY m_G_back 0 := ⟨by decide +kernel, rfl, sg_inGT (List.mem_of_getElem? (i := 1) (by decide +kernel)) rfl, cw_G_back, ⟨by decide +kernel, by decide +kernel, by decide +kernel⟩, by decide⟩
theorem cv_G_back : sg_CV m_G_back 0 := ⟨cy_G_back, sg_inGT (List.mem_of_getElem? (i := 662) (by decide +kernel)) rfl, sg_inGT (List.mem_of_getElem? (i := 663) (by decide +kernel)) rfl⟩
def m_G_busy : SgY := (10, yX10_busy, cX10_busy, 1, some .int)
set_option maxRecDepth 100000 in
theorem cw_G_busy : Cond.code m_G_busy.2.1 m_G_busy.2.2.1 m_G_busy.2.2.2.1 m_G_busy.2.2.2.2 ∈ sg_GT := sg_inGT (List.mem_of_getElem? (i := 721) rfl) rfl
theorem cy_G_busy : sg_CY m_G_busy 0 := ⟨by decide +kernel, rfl, sg_inGT (List.mem_of_getElem? (i := 1) (by decide +kernel)) rfl, cw_G_busy, ⟨by decide +kernel, by decide +kernel, by decide +kernel⟩, by decide⟩
theorem cv_G_busy : sg_CV m_G_busy 0 := ⟨cy_G_busy, sg_inGT (List.mem_of_getElem? (i := 719) (by decide +kernel)) rfl, sg_inGT (List.mem_of_getElem? (i := 720) (by decide +kernel)) rfl⟩
def m_G_chance : SgY := (10, yX10_chance, cX10_chance, 4, some .long)
set_option maxRecDepth 100000 in
theorem cw_G_chance : Cond.code m_G_chance.2.1 m_G_chance.2.2.1 m_G_chance.2.2.2.1 m_G_chance.2.2.2.2 ∈ sg_GT := sg_inGT (List.mem_of_getElem? (i := 840) rfl) rfl
theorem cy_G_chance : sg_CY m_G_chance 3 := ⟨by decide +kernel, rfl, sg_inGT (List.mem_of_getElem? (i := 1) (by decide +kernel)) rfl, cw_G_chance, ⟨by decide +kernel, by decide +kernel, by decide +kernel⟩, by decide⟩
theorem cv_G_chance : sg_CV m_G_chance 3 := ⟨cy_G_chance, sg_inGT (List.mem_of_getElem? (i := 838) (by decide +kernel)) rfl, sg_inGT (List.mem_of_getElem? (i := 839) (by decide +kernel)) rfl⟩
def m_G_changes : SgY := (10, yX10_changes, cX10_changes, 2, some .int)
set_option maxRecDepth 100000 in
theorem cw_G_changes : Cond.code m_G_changes.2.1 m_G_changes.2.2.1 m_G_changes.2.2.2.1 m_G_changes.2.2.2.2 ∈ sg_GT := sg_inGT (List.mem_of_getElem? (i := 705) rfl) rfl
theorem cy_G_changes : sg_CY m_G_changes 1 := ⟨by decide +kernel, rfl, sg_inGT (List.mem_of_getElem? (i := 1) (by decide +kernel)) rfl, cw_G_changes, ⟨by decide +kernel, by decide +kernel, by decide +kernel⟩, by decide⟩
theorem cv_G_changes : sg_CV m_G_changes 1 := ⟨cy_G_changes, sg_inGT (List.mem_of_getElem? (i := 703) (by decide +kernel)) rfl, sg_inGT (List.mem_of_getElem? (i := 704) (by decide +kernel)) rfl⟩
def m_G_copy : SgY := (10, yX10_copy, cX10_copy, 6, some .int)
set_option maxRecDepth 100000 in
theorem cw_G_copy : Cond.code m_G_copy.2.1 m_G_copy.2.2.1 m_G_copy.2.2.2.1 m_G_copy.2.2.2.2 ∈ sg_GT := sg_inGT (List.mem_of_getElem? (i := 907) rfl) rfl
theorem cy_G_copy : sg_CY m_G_copy 5 := ⟨by decide +kernel, rfl, sg_inGT (List.mem_of_getElem? (i := 1) (by decide +kernel)) rfl, cw_G_copy, ⟨by decide +kernel, by decide +kernel, by decide +kernel⟩, by decide⟩
theorem cv_G_copy : sg_CV m_G_copy 5 := ⟨cy_G_copy, sg_inGT (List.mem_of_getElem? (i := 905) (by decide +kernel)) rfl, sg_inGT (List.mem_of_getElem? (i := 906) (by decide +kernel)) rfl⟩
def m_G_count : SgY := (10, yX10_count, cX10_count, 2, some .int)
set_option maxRecDepth 100000 in
theorem cw_G_count : Cond.code m_G_count.2.1 m_G_count.2.2.1 m_G_count.2.2.2.1 m_G_count.2.2.2.2 ∈ sg_GT := sg_inGT (List.mem_of_getElem? (i := 924) rfl) rfl
theorem cy_G_count : sg_CY m_G_count 1 := ⟨by decide +kernel, rfl, sg_inGT (List.mem_of_getElem? (i := 1) (by decide +kernel)) rfl, cw_G_count, ⟨by decide +kernel, by decide +kernel, by decide +kernel⟩, by decide⟩
theorem cv_G_count : sg_CV m_G_count 1 := ⟨cy_G_count, sg_inGT (List.mem_of_getElem? (i := 922) (by decide +kernel)) rfl, sg_inGT (List.mem_of_getElem? (i := 923) (by decide +kernel)) rfl⟩
def m_G_decades : SgY := (10, yX10_decades, cX10_decades, 5, some .int)
set_option maxRecDepth 100000 in
theorem cw_G_decades : Cond.code m_G_decades.2.1 m_G_decades.2.2.1 m_G_decades.2.2.2.1 m_G_decades.2.2.2.2 ∈ sg_GT := sg_inGT (List.mem_of_getElem? (i := 857) rfl) rfl
theorem cy_G_decades : sg_CY m_G_decades 3 := ⟨by decide +kernel, rfl, sg_inGT (List.mem_of_getElem? (i := 1) (by decide +kernel)) rfl, cw_G_decades, ⟨by decide +kernel, by decide +kernel, by decide +kernel⟩, by decide⟩
theorem cv_G_decades : sg_CV m_G_decades 3 := ⟨cy_G_decades, sg_inGT (List.mem_of_getElem? (i := 855) (by decide +kernel)) rfl, sg_inGT (List.mem_of_getElem? (i := 856) (by decide +kernel)) rfl⟩
def m_G_digest : SgY := (10, yX10_digest, cX10_digest, 4, some .long)
set_option maxRecDepth 100000 in
theorem cw_G_digest : Cond.code m_G_digest.2.1 m_G_digest.2.2.1 m_G_digest.2.2.2.1 m_G_digest.2.2.2.2 ∈ sg_GT := sg_inGT (List.mem_of_getElem? (i := 928) rfl) rfl
theorem cy_G_digest : sg_CY m_G_digest 0 := ⟨by decide +kernel, rfl, sg_inGT (List.mem_of_getElem? (i := 1) (by decide +kernel)) rfl, cw_G_digest, ⟨by decide +kernel, by decide +kernel, by decide +kernel⟩, by decide⟩
theorem cv_G_digest : sg_CV m_G_digest 0 := ⟨cy_G_digest, sg_inGT (List.mem_of_getElem? (i := 926) (by decide +kernel)) rfl, sg_inGT (List.mem_of_getElem? (i := 927) (by decide +kernel)) rfl⟩
def m_G_digestHour : SgY := (10, yX10_digestHour, cX10_digestHour, 1, some .int)
set_option maxRecDepth 100000 in
theorem cw_G_digestHour : Cond.code m_G_digestHour.2.1 m_G_digestHour.2.2.1 m_G_digestHour.2.2.2.1 m_G_digestHour.2.2.2.2 ∈ sg_GT := sg_inGT (List.mem_of_getElem? (i := 940) rfl) rfl
theorem cy_G_digestHour : sg_CY m_G_digestHour 1 := ⟨by decide +kernel, rfl, sg_inGT (List.mem_of_getElem? (i := 1) (by decide +kernel)) rfl, cw_G_digestHour, ⟨by decide +kernel, by decide +kernel, by decide +kernel⟩, by decide⟩
theorem cs_G_digestHour : sg_CS m_G_digestHour 1 := ⟨cy_G_digestHour, sg_inGT (List.mem_of_getElem? (i := 939) (by decide +kernel)) rfl⟩
def m_G_digestPerson : SgY := (10, yX10_digestPerson, cX10_digestPerson, 8, some .long)
set_option maxRecDepth 100000 in
theorem cw_G_digestPerson : Cond.code m_G_digestPerson.2.1 m_G_digestPerson.2.2.1 m_G_digestPerson.2.2.2.1 m_G_digestPerson.2.2.2.2 ∈ sg_GT := sg_inGT (List.mem_of_getElem? (i := 945) rfl) rfl
theorem cy_G_digestPerson : sg_CY m_G_digestPerson 2 := ⟨by decide +kernel, rfl, sg_inGT (List.mem_of_getElem? (i := 1) (by decide +kernel)) rfl, cw_G_digestPerson, ⟨by decide +kernel, by decide +kernel, by decide +kernel⟩, by decide⟩
theorem cv_G_digestPerson : sg_CV m_G_digestPerson 2 := ⟨cy_G_digestPerson, sg_inGT (List.mem_of_getElem? (i := 944) (by decide +kernel)) rfl, sg_inP (List.mem_of_getElem? (i := 19) (by decide +kernel)) rfl⟩
def m_G_digestPost : SgY := (10, yX10_digestPost, cX10_digestPost, 8, some .long)
set_option maxRecDepth 100000 in
theorem cw_G_digestPost : Cond.code m_G_digestPost.2.1 m_G_digestPost.2.2.1 m_G_digestPost.2.2.2.1 m_G_digestPost.2.2.2.2 ∈ sg_GT := sg_inGT (List.mem_of_getElem? (i := 936) rfl) rfl
theorem cy_G_digestPost : sg_CY m_G_digestPost 2 := ⟨by decide +kernel, rfl, sg_inGT (List.mem_of_getElem? (i := 1) (by decide +kernel)) rfl, cw_G_digestPost, ⟨by decide +kernel, by decide +kernel, by decide +kernel⟩, by decide⟩
theorem cv_G_digestPost : sg_CV m_G_digestPost 2 := ⟨cy_G_digestPost, sg_inGT (List.mem_of_getElem? (i := 935) (by decide +kernel)) rfl, sg_inP (List.mem_of_getElem? (i := 18) (by decide +kernel)) rfl⟩
def m_G_digestRest : SgY := (10, yX10_digestRest, cX10_digestRest, 6, some .long)
set_option maxRecDepth 100000 in
theorem cw_G_digestRest : Cond.code m_G_digestRest.2.1 m_G_digestRest.2.2.1 m_G_digestRest.2.2.2.1 m_G_digestRest.2.2.2.2 ∈ sg_GT := sg_inGT (List.mem_of_getElem? (i := 954) rfl) rfl
theorem cy_G_digestRest : sg_CY m_G_digestRest 1 := ⟨by decide +kernel, rfl, sg_inGT (List.mem_of_getElem? (i := 1) (by decide +kernel)) rfl, cw_G_digestRest, ⟨by decide +kernel, by decide +kernel, by decide +kernel⟩, by decide⟩
theorem cv_G_digestRest : sg_CV m_G_digestRest 1 := ⟨cy_G_digestRest, sg_inGT (List.mem_of_getElem? (i := 953) (by decide +kernel)) rfl, sg_inP (List.mem_of_getElem? (i := 20) (by decide +kernel)) rfl⟩
def m_G_dust : SgY := (10, yX10_dust, cX10_dust, 3, some .int)
set_option maxRecDepth 100000 in
theorem cw_G_dust : Cond.code m_G_dust.2.1 m_G_dust.2.2.1 m_G_dust.2.2.2.1 m_G_dust.2.2.2.2 ∈ sg_GT := sg_inGT (List.mem_of_getElem? (i := 746) rfl) rfl
theorem cy_G_dust : sg_CY m_G_dust 2 := ⟨by decide +kernel, rfl, sg_inGT (List.mem_of_getElem? (i := 1) (by decide +kernel)) rfl, cw_G_dust, ⟨by decide +kernel, by decide +kernel, by decide +kernel⟩, by decide⟩
theorem cv_G_dust : sg_CV m_G_dust 2 := ⟨cy_G_dust, sg_inGT (List.mem_of_getElem? (i := 744) (by decide +kernel)) rfl, sg_inGT (List.mem_of_getElem? (i := 745) (by decide +kernel)) rfl⟩
def m_G_event : SgY := (10, yX10_event, cX10_event, 4, some .int)
set_option maxRecDepth 100000 in
theorem cw_G_event : Cond.code m_G_event.2.1 m_G_event.2.2.1 m_G_event.2.2.2.1 m_G_event.2.2.2.2 ∈ sg_GT := sg_inGT (List.mem_of_getElem? (i := 652) rfl) rfl
theorem cy_G_event : sg_CY m_G_event 3 := ⟨by decide +kernel, rfl, sg_inGT (List.mem_of_getElem? (i := 1) (by decide +kernel)) rfl, cw_G_event, ⟨by decide +kernel, by decide +kernel, by decide +kernel⟩, by decide⟩
theorem cv_G_event : sg_CV m_G_event 3 := ⟨cy_G_event, sg_inGT (List.mem_of_getElem? (i := 650) (by decide +kernel)) rfl, sg_inGT (List.mem_of_getElem? (i := 651) (by decide +kernel)) rfl⟩
def m_G_fault : SgY := (10, yX10_fault, cX10_fault, 2, some .int)
set_option maxRecDepth 100000 in
theorem cw_G_fault : Cond.code m_G_fault.2.1 m_G_fault.2.2.1 m_G_fault.2.2.2.1 m_G_fault.2.2.2.2 ∈ sg_GT := sg_inGT (List.mem_of_getElem? (i := 631) rfl) rfl
theorem cy_G_fault : sg_CY m_G_fault 1 := ⟨by decide +kernel, rfl, sg_inGT (List.mem_of_getElem? (i := 1) (by decide +kernel)) rfl, cw_G_fault, ⟨by decide +kernel, by decide +kernel, by decide +kernel⟩, by decide⟩
theorem cv_G_fault : sg_CV m_G_fault 1 := ⟨cy_G_fault, sg_inGT (List.mem_of_getElem? (i := 629) (by decide +kernel)) rfl, sg_inGT (List.mem_of_getElem? (i := 630) (by decide +kernel)) rfl⟩
def m_G_forget : SgY := (10, yX10_forget, cX10_forget, 2, some .int)
set_option maxRecDepth 100000 in
theorem cw_G_forget : Cond.code m_G_forget.2.1 m_G_forget.2.2.1 m_G_forget.2.2.2.1 m_G_forget.2.2.2.2 ∈ sg_GT := sg_inGT (List.mem_of_getElem? (i := 788) rfl) rfl
theorem cy_G_forget : sg_CY m_G_forget 0 := ⟨by decide +kernel, rfl, sg_inGT (List.mem_of_getElem? (i := 1) (by decide +kernel)) rfl, cw_G_forget, ⟨by decide +kernel, by decide +kernel, by decide +kernel⟩, by decide⟩
theorem cv_G_forget : sg_CV m_G_forget 0 := ⟨cy_G_forget, sg_inGT (List.mem_of_getElem? (i := 786) (by decide +kernel)) rfl, sg_inGT (List.mem_of_getElem? (i := 787) (by decide +kernel)) rfl⟩
def m_G_forgotten : SgY := (10, yX10_forgotten, cX10_forgotten, 1, some .int)
set_option maxRecDepth 100000 in
theorem cw_G_forgotten : Cond.code m_G_forgotten.2.1 m_G_forgotten.2.2.1 m_G_forgotten.2.2.2.1 m_G_forgotten.2.2.2.2 ∈ sg_GT := sg_inGT (List.mem_of_getElem? (i := 709) rfl) rfl
theorem cy_G_forgotten : sg_CY m_G_forgotten 0 := ⟨by decide +kernel, rfl, sg_inGT (List.mem_of_getElem? (i := 1) (by decide +kernel)) rfl, cw_G_forgotten, ⟨by decide +kernel, by decide +kernel, by decide +kernel⟩, by decide⟩
theorem cv_G_forgotten : sg_CV m_G_forgotten 0 := ⟨cy_G_forgotten, sg_inGT (List.mem_of_getElem? (i := 707) (by decide +kernel)) rfl, sg_inGT (List.mem_of_getElem? (i := 708) (by decide +kernel)) rfl⟩
def m_G_get : SgY := (10, yX10_get, cX10_get, 4, some .int)
set_option maxRecDepth 100000 in
theorem cw_G_get : Cond.code m_G_get.2.1 m_G_get.2.2.1 m_G_get.2.2.2.1 m_G_get.2.2.2.2 ∈ sg_GT := sg_inGT (List.mem_of_getElem? (i := 902) rfl) rfl
theorem cy_G_get : sg_CY m_G_get 3 := ⟨by decide +kernel, rfl, sg_inGT (List.mem_of_getElem? (i := 1) (by decide +kernel)) rfl, cw_G_get, ⟨by decide +kernel, by decide +kernel, by decide +kernel⟩, by decide⟩
theorem cv_G_get : sg_CV m_G_get 3 := ⟨cy_G_get, sg_inGT (List.mem_of_getElem? (i := 900) (by decide +kernel)) rfl, sg_inGT (List.mem_of_getElem? (i := 901) (by decide +kernel)) rfl⟩
def m_G_hasBit : SgY := (10, yX10_hasBit, cX10_hasBit, 2, some .boolean)
set_option maxRecDepth 100000 in
theorem cw_G_hasBit : Cond.code m_G_hasBit.2.1 m_G_hasBit.2.2.1 m_G_hasBit.2.2.2.1 m_G_hasBit.2.2.2.2 ∈ sg_GT := sg_inGT (List.mem_of_getElem? (i := 386) rfl) rfl
theorem cy_G_hasBit : sg_CY m_G_hasBit 2 := ⟨by decide +kernel, rfl, sg_inGT (List.mem_of_getElem? (i := 1) (by decide +kernel)) rfl, cw_G_hasBit, ⟨by decide +kernel, by decide +kernel, by decide +kernel⟩, by decide⟩
theorem cs_G_hasBit : sg_CS m_G_hasBit 2 := ⟨cy_G_hasBit, sg_inGT (List.mem_of_getElem? (i := 385) (by decide +kernel)) rfl⟩
def m_G_hush : SgY := (10, yX10_hush, cX10_hush, 3, some .int)
set_option maxRecDepth 100000 in
theorem cw_G_hush : Cond.code m_G_hush.2.1 m_G_hush.2.2.1 m_G_hush.2.2.2.1 m_G_hush.2.2.2.2 ∈ sg_GT := sg_inGT (List.mem_of_getElem? (i := 754) rfl) rfl
theorem cy_G_hush : sg_CY m_G_hush 2 := ⟨by decide +kernel, rfl, sg_inGT (List.mem_of_getElem? (i := 1) (by decide +kernel)) rfl, cw_G_hush, ⟨by decide +kernel, by decide +kernel, by decide +kernel⟩, by decide⟩
theorem cv_G_hush : sg_CV m_G_hush 2 := ⟨cy_G_hush, sg_inGT (List.mem_of_getElem? (i := 752) (by decide +kernel)) rfl, sg_inGT (List.mem_of_getElem? (i := 753) (by decide +kernel)) rfl⟩
def m_G_isBelow : SgY := (10, yX10_isBelow, cX10_isBelow, 2, some .boolean)
set_option maxRecDepth 100000 in
theorem cw_G_isBelow : Cond.code m_G_isBelow.2.1 m_G_isBelow.2.2.1 m_G_isBelow.2.2.2.1 m_G_isBelow.2.2.2.2 ∈ sg_GT := sg_inGT (List.mem_of_getElem? (i := 358) rfl) rfl
theorem cy_G_isBelow : sg_CY m_G_isBelow 2 := ⟨by decide +kernel, rfl, sg_inGT (List.mem_of_getElem? (i := 1) (by decide +kernel)) rfl, cw_G_isBelow, ⟨by decide +kernel, by decide +kernel, by decide +kernel⟩, by decide⟩
theorem cs_G_isBelow : sg_CS m_G_isBelow 2 := ⟨cy_G_isBelow, sg_inGT (List.mem_of_getElem? (i := 357) (by decide +kernel)) rfl⟩
def m_G_isPerson : SgY := (10, yX10_isPerson, cX10_isPerson, 2, some .boolean)
set_option maxRecDepth 100000 in
theorem cw_G_isPerson : Cond.code m_G_isPerson.2.1 m_G_isPerson.2.2.1 m_G_isPerson.2.2.2.1 m_G_isPerson.2.2.2.2 ∈ sg_GT := sg_inGT (List.mem_of_getElem? (i := 648) rfl) rfl
theorem cy_G_isPerson : sg_CY m_G_isPerson 1 := ⟨by decide +kernel, rfl, sg_inGT (List.mem_of_getElem? (i := 1) (by decide +kernel)) rfl, cw_G_isPerson, ⟨by decide +kernel, by decide +kernel, by decide +kernel⟩, by decide⟩
theorem cv_G_isPerson : sg_CV m_G_isPerson 1 := ⟨cy_G_isPerson, sg_inGT (List.mem_of_getElem? (i := 647) (by decide +kernel)) rfl, sg_inP (List.mem_of_getElem? (i := 11) (by decide +kernel)) rfl⟩
def m_G_isPost : SgY := (10, yX10_isPost, cX10_isPost, 2, some .boolean)
set_option maxRecDepth 100000 in
theorem cw_G_isPost : Cond.code m_G_isPost.2.1 m_G_isPost.2.2.1 m_G_isPost.2.2.2.1 m_G_isPost.2.2.2.2 ∈ sg_GT := sg_inGT (List.mem_of_getElem? (i := 640) rfl) rfl
theorem cy_G_isPost : sg_CY m_G_isPost 1 := ⟨by decide +kernel, rfl, sg_inGT (List.mem_of_getElem? (i := 1) (by decide +kernel)) rfl, cw_G_isPost, ⟨by decide +kernel, by decide +kernel, by decide +kernel⟩, by decide⟩
theorem cv_G_isPost : sg_CV m_G_isPost 1 := ⟨cy_G_isPost, sg_inGT (List.mem_of_getElem? (i := 639) (by decide +kernel)) rfl, sg_inP (List.mem_of_getElem? (i := 10) (by decide +kernel)) rfl⟩
def m_G_lay : SgY := (10, yX10_lay, cX10_lay, 6, some .int)
set_option maxRecDepth 100000 in
theorem cw_G_lay : Cond.code m_G_lay.2.1 m_G_lay.2.2.1 m_G_lay.2.2.2.1 m_G_lay.2.2.2.2 ∈ sg_GT := sg_inGT (List.mem_of_getElem? (i := 890) rfl) rfl
theorem cy_G_lay : sg_CY m_G_lay 4 := ⟨by decide +kernel, rfl, sg_inGT (List.mem_of_getElem? (i := 1) (by decide +kernel)) rfl, cw_G_lay, ⟨by decide +kernel, by decide +kernel, by decide +kernel⟩, by decide⟩
theorem cv_G_lay : sg_CV m_G_lay 4 := ⟨cy_G_lay, sg_inGT (List.mem_of_getElem? (i := 888) (by decide +kernel)) rfl, sg_inGT (List.mem_of_getElem? (i := 889) (by decide +kernel)) rfl⟩
def m_G_longest : SgY := (10, yX10_longest, cX10_longest, 2, some .int)
set_option maxRecDepth 100000 in
theorem cw_G_longest : Cond.code m_G_longest.2.1 m_G_longest.2.2.1 m_G_longest.2.2.2.1 m_G_longest.2.2.2.2 ∈ sg_GT := sg_inGT (List.mem_of_getElem? (i := 713) rfl) rfl
theorem cy_G_longest : sg_CY m_G_longest 1 := ⟨by decide +kernel, rfl, sg_inGT (List.mem_of_getElem? (i := 1) (by decide +kernel)) rfl, cw_G_longest, ⟨by decide +kernel, by decide +kernel, by decide +kernel⟩, by decide⟩
theorem cv_G_longest : sg_CV m_G_longest 1 := ⟨cy_G_longest, sg_inGT (List.mem_of_getElem? (i := 711) (by decide +kernel)) rfl, sg_inGT (List.mem_of_getElem? (i := 712) (by decide +kernel)) rfl⟩
def m_G_lose : SgY := (10, yX10_lose, cX10_lose, 2, some .int)
set_option maxRecDepth 100000 in
theorem cw_G_lose : Cond.code m_G_lose.2.1 m_G_lose.2.2.1 m_G_lose.2.2.2.1 m_G_lose.2.2.2.2 ∈ sg_GT := sg_inGT (List.mem_of_getElem? (i := 881) rfl) rfl
theorem cy_G_lose : sg_CY m_G_lose 1 := ⟨by decide +kernel, rfl, sg_inGT (List.mem_of_getElem? (i := 1) (by decide +kernel)) rfl, cw_G_lose, ⟨by decide +kernel, by decide +kernel, by decide +kernel⟩, by decide⟩
theorem cv_G_lose : sg_CV m_G_lose 1 := ⟨cy_G_lose, sg_inGT (List.mem_of_getElem? (i := 879) (by decide +kernel)) rfl, sg_inGT (List.mem_of_getElem? (i := 880) (by decide +kernel)) rfl⟩
def m_G_never : SgY := (10, yX10_never, cX10_never, 1, some .int)
set_option maxRecDepth 100000 in
theorem cw_G_never : Cond.code m_G_never.2.1 m_G_never.2.2.1 m_G_never.2.2.2.1 m_G_never.2.2.2.2 ∈ sg_GT := sg_inGT (List.mem_of_getElem? (i := 792) rfl) rfl
theorem cy_G_never : sg_CY m_G_never 0 := ⟨by decide +kernel, rfl, sg_inGT (List.mem_of_getElem? (i := 1) (by decide +kernel)) rfl, cw_G_never, ⟨by decide +kernel, by decide +kernel, by decide +kernel⟩, by decide⟩
theorem cv_G_never : sg_CV m_G_never 0 := ⟨cy_G_never, sg_inGT (List.mem_of_getElem? (i := 790) (by decide +kernel)) rfl, sg_inGT (List.mem_of_getElem? (i := 791) (by decide +kernel)) rfl⟩
def m_G_person : SgY := (10, yX10_person, cX10_person, 3, some .int)
set_option maxRecDepth 100000 in
theorem cw_G_person : Cond.code m_G_person.2.1 m_G_person.2.2.1 m_G_person.2.2.2.1 m_G_person.2.2.2.2 ∈ sg_GT := sg_inGT (List.mem_of_getElem? (i := 644) rfl) rfl
theorem cy_G_person : sg_CY m_G_person 2 := ⟨by decide +kernel, rfl, sg_inGT (List.mem_of_getElem? (i := 1) (by decide +kernel)) rfl, cw_G_person, ⟨by decide +kernel, by decide +kernel, by decide +kernel⟩, by decide⟩
theorem cv_G_person : sg_CV m_G_person 2 := ⟨cy_G_person, sg_inGT (List.mem_of_getElem? (i := 642) (by decide +kernel)) rfl, sg_inGT (List.mem_of_getElem? (i := 643) (by decide +kernel)) rfl⟩
def m_G_post : SgY := (10, yX10_post, cX10_post, 3, some .int)
set_option maxRecDepth 100000 in
theorem cw_G_post : Cond.code m_G_post.2.1 m_G_post.2.2.1 m_G_post.2.2.2.1 m_G_post.2.2.2.2 ∈ sg_GT := sg_inGT (List.mem_of_getElem? (i := 636) rfl) rfl
theorem cy_G_post : sg_CY m_G_post 2 := ⟨by decide +kernel, rfl, sg_inGT (List.mem_of_getElem? (i := 1) (by decide +kernel)) rfl, cw_G_post, ⟨by decide +kernel, by decide +kernel, by decide +kernel⟩, by decide⟩
theorem cv_G_post : sg_CV m_G_post 2 := ⟨cy_G_post, sg_inGT (List.mem_of_getElem? (i := 634) (by decide +kernel)) rfl, sg_inGT (List.mem_of_getElem? (i := 635) (by decide +kernel)) rfl⟩
def m_G_quiet : SgY := (10, yX10_quiet, cX10_quiet, 1, some .int)
set_option maxRecDepth 100000 in
theorem cw_G_quiet : Cond.code m_G_quiet.2.1 m_G_quiet.2.2.1 m_G_quiet.2.2.2.1 m_G_quiet.2.2.2.2 ∈ sg_GT := sg_inGT (List.mem_of_getElem? (i := 729) rfl) rfl
theorem cy_G_quiet : sg_CY m_G_quiet 0 := ⟨by decide +kernel, rfl, sg_inGT (List.mem_of_getElem? (i := 1) (by decide +kernel)) rfl, cw_G_quiet, ⟨by decide +kernel, by decide +kernel, by decide +kernel⟩, by decide⟩
theorem cv_G_quiet : sg_CV m_G_quiet 0 := ⟨cy_G_quiet, sg_inGT (List.mem_of_getElem? (i := 727) (by decide +kernel)) rfl, sg_inGT (List.mem_of_getElem? (i := 728) (by decide +kernel)) rfl⟩
def m_G_read : SgY := (10, yX10_read, cX10_read, 8, some .int)
set_option maxRecDepth 100000 in
theorem cw_G_read : Cond.code m_G_read.2.1 m_G_read.2.2.1 m_G_read.2.2.2.1 m_G_read.2.2.2.2 ∈ sg_GT := sg_inGT (List.mem_of_getElem? (i := 668) rfl) rfl
theorem cy_G_read : sg_CY m_G_read 1 := ⟨by decide +kernel, rfl, sg_inGT (List.mem_of_getElem? (i := 1) (by decide +kernel)) rfl, cw_G_read, ⟨by decide +kernel, by decide +kernel, by decide +kernel⟩, by decide⟩
theorem cv_G_read : sg_CV m_G_read 1 := ⟨cy_G_read, sg_inGT (List.mem_of_getElem? (i := 666) (by decide +kernel)) rfl, sg_inGT (List.mem_of_getElem? (i := 667) (by decide +kernel)) rfl⟩
def m_G_seen : SgY := (10, yX10_seen, cX10_seen, 4, some .int)
set_option maxRecDepth 100000 in
theorem cw_G_seen : Cond.code m_G_seen.2.1 m_G_seen.2.2.1 m_G_seen.2.2.2.1 m_G_seen.2.2.2.2 ∈ sg_GT := sg_inGT (List.mem_of_getElem? (i := 780) rfl) rfl
theorem cy_G_seen : sg_CY m_G_seen 3 := ⟨by decide +kernel, rfl, sg_inGT (List.mem_of_getElem? (i := 1) (by decide +kernel)) rfl, cw_G_seen, ⟨by decide +kernel, by decide +kernel, by decide +kernel⟩, by decide⟩
theorem cv_G_seen : sg_CV m_G_seen 3 := ⟨cy_G_seen, sg_inGT (List.mem_of_getElem? (i := 778) (by decide +kernel)) rfl, sg_inGT (List.mem_of_getElem? (i := 779) (by decide +kernel)) rfl⟩
def m_G_sheet : SgY := (10, yX10_sheet, cX10_sheet, 4, some .int)
set_option maxRecDepth 100000 in
theorem cw_G_sheet : Cond.code m_G_sheet.2.1 m_G_sheet.2.2.1 m_G_sheet.2.2.2.1 m_G_sheet.2.2.2.2 ∈ sg_GT := sg_inGT (List.mem_of_getElem? (i := 873) rfl) rfl
theorem cy_G_sheet : sg_CY m_G_sheet 3 := ⟨by decide +kernel, rfl, sg_inGT (List.mem_of_getElem? (i := 1) (by decide +kernel)) rfl, cw_G_sheet, ⟨by decide +kernel, by decide +kernel, by decide +kernel⟩, by decide⟩
theorem cv_G_sheet : sg_CV m_G_sheet 3 := ⟨cy_G_sheet, sg_inGT (List.mem_of_getElem? (i := 871) (by decide +kernel)) rfl, sg_inGT (List.mem_of_getElem? (i := 872) (by decide +kernel)) rfl⟩
def m_G_spare : SgY := (10, yX10_spare, cX10_spare, 2, some .int)
set_option maxRecDepth 100000 in
theorem cw_G_spare : Cond.code m_G_spare.2.1 m_G_spare.2.2.1 m_G_spare.2.2.2.1 m_G_spare.2.2.2.2 ∈ sg_GT := sg_inGT (List.mem_of_getElem? (i := 762) rfl) rfl
theorem cy_G_spare : sg_CY m_G_spare 1 := ⟨by decide +kernel, rfl, sg_inGT (List.mem_of_getElem? (i := 1) (by decide +kernel)) rfl, cw_G_spare, ⟨by decide +kernel, by decide +kernel, by decide +kernel⟩, by decide⟩
theorem cv_G_spare : sg_CV m_G_spare 1 := ⟨cy_G_spare, sg_inGT (List.mem_of_getElem? (i := 760) (by decide +kernel)) rfl, sg_inGT (List.mem_of_getElem? (i := 761) (by decide +kernel)) rfl⟩
def m_G_stood : SgY := (10, yX10_stood, cX10_stood, 4, some .int)
set_option maxRecDepth 100000 in
theorem cw_G_stood : Cond.code m_G_stood.2.1 m_G_stood.2.2.1 m_G_stood.2.2.2.1 m_G_stood.2.2.2.2 ∈ sg_GT := sg_inGT (List.mem_of_getElem? (i := 697) rfl) rfl
theorem cy_G_stood : sg_CY m_G_stood 3 := ⟨by decide +kernel, rfl, sg_inGT (List.mem_of_getElem? (i := 1) (by decide +kernel)) rfl, cw_G_stood, ⟨by decide +kernel, by decide +kernel, by decide +kernel⟩, by decide⟩
theorem cv_G_stood : sg_CV m_G_stood 3 := ⟨cy_G_stood, sg_inGT (List.mem_of_getElem? (i := 695) (by decide +kernel)) rfl, sg_inGT (List.mem_of_getElem? (i := 696) (by decide +kernel)) rfl⟩
def m_G_stroll : SgY := (10, yX10_stroll, cX10_stroll, 3, some .int)
set_option maxRecDepth 100000 in
theorem cw_G_stroll : Cond.code m_G_stroll.2.1 m_G_stroll.2.2.1 m_G_stroll.2.2.2.1 m_G_stroll.2.2.2.2 ∈ sg_GT := sg_inGT (List.mem_of_getElem? (i := 737) rfl) rfl
theorem cy_G_stroll : sg_CY m_G_stroll 2 := ⟨by decide +kernel, rfl, sg_inGT (List.mem_of_getElem? (i := 1) (by decide +kernel)) rfl, cw_G_stroll, ⟨by decide +kernel, by decide +kernel, by decide +kernel⟩, by decide⟩
theorem cv_G_stroll : sg_CV m_G_stroll 2 := ⟨cy_G_stroll, sg_inGT (List.mem_of_getElem? (i := 735) (by decide +kernel)) rfl, sg_inGT (List.mem_of_getElem? (i := 736) (by decide +kernel)) rfl⟩
def m_G_timesOfBit : SgY := (10, yX10_timesOfBit, cX10_timesOfBit, 5, some .int)
set_option maxRecDepth 100000 in
theorem cw_G_timesOfBit : Cond.code m_G_timesOfBit.2.1 m_G_timesOfBit.2.2.1 m_G_timesOfBit.2.2.2.1 m_G_timesOfBit.2.2.2.2 ∈ sg_GT := sg_inGT (List.mem_of_getElem? (i := 693) rfl) rfl
theorem cy_G_timesOfBit : sg_CY m_G_timesOfBit 3 := ⟨by decide +kernel, rfl, sg_inGT (List.mem_of_getElem? (i := 1) (by decide +kernel)) rfl, cw_G_timesOfBit, ⟨by decide +kernel, by decide +kernel, by decide +kernel⟩, by decide⟩
theorem cs_G_timesOfBit : sg_CS m_G_timesOfBit 3 := ⟨cy_G_timesOfBit, sg_inGT (List.mem_of_getElem? (i := 692) (by decide +kernel)) rfl⟩
def m_G_type : SgY := (10, yX10_type, cX10_type, 4, some .int)
set_option maxRecDepth 100000 in
theorem cw_G_type : Cond.code m_G_type.2.1 m_G_type.2.2.1 m_G_type.2.2.2.1 m_G_type.2.2.2.2 ∈ sg_GT := sg_inGT (List.mem_of_getElem? (i := 601) rfl) rfl
theorem cy_G_type : sg_CY m_G_type 2 := ⟨by decide +kernel, rfl, sg_inGT (List.mem_of_getElem? (i := 1) (by decide +kernel)) rfl, cw_G_type, ⟨by decide +kernel, by decide +kernel, by decide +kernel⟩, by decide⟩
theorem cv_G_type : sg_CV m_G_type 2 := ⟨cy_G_type, sg_inGT (List.mem_of_getElem? (i := 599) (by decide +kernel)) rfl, sg_inGT (List.mem_of_getElem? (i := 600) (by decide +kernel)) rfl⟩
def m_G_undo : SgY := (10, yX10_undo, cX10_undo, 3, some .int)
set_option maxRecDepth 100000 in
theorem cw_G_undo : Cond.code m_G_undo.2.1 m_G_undo.2.2.1 m_G_undo.2.2.2.1 m_G_undo.2.2.2.2 ∈ sg_GT := sg_inGT (List.mem_of_getElem? (i := 623) rfl) rfl
theorem cy_G_undo : sg_CY m_G_undo 1 := ⟨by decide +kernel, rfl, sg_inGT (List.mem_of_getElem? (i := 1) (by decide +kernel)) rfl, cw_G_undo, ⟨by decide +kernel, by decide +kernel, by decide +kernel⟩, by decide⟩
theorem cv_G_undo : sg_CV m_G_undo 1 := ⟨cy_G_undo, sg_inGT (List.mem_of_getElem? (i := 621) (by decide +kernel)) rfl, sg_inGT (List.mem_of_getElem? (i := 622) (by decide +kernel)) rfl⟩
def m_G_was : SgY := (10, yX10_was, cX10_was, 3, some .int)
set_option maxRecDepth 100000 in
theorem cw_G_was : Cond.code m_G_was.2.1 m_G_was.2.2.1 m_G_was.2.2.2.1 m_G_was.2.2.2.2 ∈ sg_GT := sg_inGT (List.mem_of_getElem? (i := 809) rfl) rfl
theorem cy_G_was : sg_CY m_G_was 2 := ⟨by decide +kernel, rfl, sg_inGT (List.mem_of_getElem? (i := 1) (by decide +kernel)) rfl, cw_G_was, ⟨by decide +kernel, by decide +kernel, by decide +kernel⟩, by decide⟩
theorem cv_G_was : sg_CV m_G_was 2 := ⟨cy_G_was, sg_inGT (List.mem_of_getElem? (i := 807) (by decide +kernel)) rfl, sg_inGT (List.mem_of_getElem? (i := 808) (by decide +kernel)) rfl⟩
def m_G_wipe : SgY := (10, yX10_wipe, cX10_wipe, 3, some .int)
set_option maxRecDepth 100000 in
theorem cw_G_wipe : Cond.code m_G_wipe.2.1 m_G_wipe.2.2.1 m_G_wipe.2.2.2.1 m_G_wipe.2.2.2.2 ∈ sg_GT := sg_inGT (List.mem_of_getElem? (i := 615) rfl) rfl
theorem cy_G_wipe : sg_CY m_G_wipe 1 := ⟨by decide +kernel, rfl, sg_inGT (List.mem_of_getElem? (i := 1) (by decide +kernel)) rfl, cw_G_wipe, ⟨by decide +kernel, by decide +kernel, by decide +kernel⟩, by decide⟩
theorem cv_G_wipe : sg_CV m_G_wipe 1 := ⟨cy_G_wipe, sg_inGT (List.mem_of_getElem? (i := 613) (by decide +kernel)) rfl, sg_inGT (List.mem_of_getElem? (i := 614) (by decide +kernel)) rfl⟩
def m_G_write : SgY := (10, yX10_write, cX10_write, 6, some .int)
set_option maxRecDepth 100000 in
theorem cw_G_write : Cond.code m_G_write.2.1 m_G_write.2.2.1 m_G_write.2.2.2.1 m_G_write.2.2.2.2 ∈ sg_GT := sg_inGT (List.mem_of_getElem? (i := 919) rfl) rfl
theorem cy_G_write : sg_CY m_G_write 2 := ⟨by decide +kernel, rfl, sg_inGT (List.mem_of_getElem? (i := 1) (by decide +kernel)) rfl, cw_G_write, ⟨by decide +kernel, by decide +kernel, by decide +kernel⟩, by decide⟩
theorem cv_G_write : sg_CV m_G_write 2 := ⟨cy_G_write, sg_inGT (List.mem_of_getElem? (i := 917) (by decide +kernel)) rfl, sg_inGT (List.mem_of_getElem? (i := 918) (by decide +kernel)) rfl⟩
def m_H_coldsOf : SgY := (3, yX3_coldsOf, cX3_coldsOf, 5, some .int)
set_option maxRecDepth 100000 in
theorem cw_H_coldsOf : Cond.code m_H_coldsOf.2.1 m_H_coldsOf.2.2.1 m_H_coldsOf.2.2.2.1 m_H_coldsOf.2.2.2.2 ∈ sg_GT := sg_inGT (List.mem_of_getElem? (i := 818) rfl) rfl
theorem cy_H_coldsOf : sg_CY m_H_coldsOf 1 := ⟨by decide +kernel, rfl, sg_inGT (List.mem_of_getElem? (i := 17) (by decide +kernel)) rfl, cw_H_coldsOf, ⟨by decide +kernel, by decide +kernel, by decide +kernel⟩, by decide⟩
theorem cv_H_coldsOf : sg_CV m_H_coldsOf 1 := ⟨cy_H_coldsOf, sg_inGT (List.mem_of_getElem? (i := 816) (by decide +kernel)) rfl, sg_inGT (List.mem_of_getElem? (i := 817) (by decide +kernel)) rfl⟩
def m_H_comesOutSo : SgY := (3, yX3_comesOutSo, cX3_comesOutSo, 3, some .boolean)
set_option maxRecDepth 100000 in
theorem cw_H_comesOutSo : Cond.code m_H_comesOutSo.2.1 m_H_comesOutSo.2.2.1 m_H_comesOutSo.2.2.2.1 m_H_comesOutSo.2.2.2.2 ∈ sg_GT := sg_inGT (List.mem_of_getElem? (i := 805) rfl) rfl
theorem cy_H_comesOutSo : sg_CY m_H_comesOutSo 0 := ⟨by decide +kernel, rfl, sg_inGT (List.mem_of_getElem? (i := 17) (by decide +kernel)) rfl, cw_H_comesOutSo, ⟨by decide +kernel, by decide +kernel, by decide +kernel⟩, by decide⟩
theorem cv_H_comesOutSo : sg_CV m_H_comesOutSo 0 := ⟨cy_H_comesOutSo, sg_inGT (List.mem_of_getElem? (i := 804) (by decide +kernel)) rfl, sg_inP (List.mem_of_getElem? (i := 14) (by decide +kernel)) rfl⟩
def m_H_hourToAsk : SgY := (3, yX3_hourToAsk, cX3_hourToAsk, 7, some .int)
set_option maxRecDepth 100000 in
theorem cw_H_hourToAsk : Cond.code m_H_hourToAsk.2.1 m_H_hourToAsk.2.2.1 m_H_hourToAsk.2.2.2.1 m_H_hourToAsk.2.2.2.2 ∈ sg_GT := sg_inGT (List.mem_of_getElem? (i := 829) rfl) rfl
theorem cy_H_hourToAsk : sg_CY m_H_hourToAsk 1 := ⟨by decide +kernel, rfl, sg_inGT (List.mem_of_getElem? (i := 17) (by decide +kernel)) rfl, cw_H_hourToAsk, ⟨by decide +kernel, by decide +kernel, by decide +kernel⟩, by decide⟩
theorem cv_H_hourToAsk : sg_CV m_H_hourToAsk 1 := ⟨cy_H_hourToAsk, sg_inGT (List.mem_of_getElem? (i := 827) (by decide +kernel)) rfl, sg_inGT (List.mem_of_getElem? (i := 828) (by decide +kernel)) rfl⟩
def m_H_mostAlike : SgY := (3, yX3_mostAlike, cX3_mostAlike, 7, some .int)
set_option maxRecDepth 100000 in
theorem cw_H_mostAlike : Cond.code m_H_mostAlike.2.1 m_H_mostAlike.2.2.1 m_H_mostAlike.2.2.2.1 m_H_mostAlike.2.2.2.2 ∈ sg_GT := sg_inGT (List.mem_of_getElem? (i := 834) rfl) rfl
theorem cy_H_mostAlike : sg_CY m_H_mostAlike 2 := ⟨by decide +kernel, rfl, sg_inGT (List.mem_of_getElem? (i := 17) (by decide +kernel)) rfl, cw_H_mostAlike, ⟨by decide +kernel, by decide +kernel, by decide +kernel⟩, by decide⟩
theorem cv_H_mostAlike : sg_CV m_H_mostAlike 2 := ⟨cy_H_mostAlike, sg_inGT (List.mem_of_getElem? (i := 833) (by decide +kernel)) rfl, sg_inP (List.mem_of_getElem? (i := 15) (by decide +kernel)) rfl⟩
def m_H_needless : SgY := (3, yX3_needless, cX3_needless, 3, some .int)
set_option maxRecDepth 100000 in
theorem cw_H_needless : Cond.code m_H_needless.2.1 m_H_needless.2.2.1 m_H_needless.2.2.2.1 m_H_needless.2.2.2.2 ∈ sg_GT := sg_inGT (List.mem_of_getElem? (i := 796) rfl) rfl
theorem cy_H_needless : sg_CY m_H_needless 0 := ⟨by decide +kernel, rfl, sg_inGT (List.mem_of_getElem? (i := 17) (by decide +kernel)) rfl, cw_H_needless, ⟨by decide +kernel, by decide +kernel, by decide +kernel⟩, by decide⟩
theorem cv_H_needless : sg_CV m_H_needless 0 := ⟨cy_H_needless, sg_inGT (List.mem_of_getElem? (i := 794) (by decide +kernel)) rfl, sg_inGT (List.mem_of_getElem? (i := 795) (by decide +kernel)) rfl⟩
def m_H_see : SgY := (3, yX3_see, cX3_see, 4, some .int)
set_option maxRecDepth 100000 in
theorem cw_H_see : Cond.code m_H_see.2.1 m_H_see.2.2.1 m_H_see.2.2.2.1 m_H_see.2.2.2.2 ∈ sg_GT := sg_inGT (List.mem_of_getElem? (i := 784) rfl) rfl
theorem cy_H_see : sg_CY m_H_see 3 := ⟨by decide +kernel, rfl, sg_inGT (List.mem_of_getElem? (i := 17) (by decide +kernel)) rfl, cw_H_see, ⟨by decide +kernel, by decide +kernel, by decide +kernel⟩, by decide⟩
theorem cv_H_see : sg_CV m_H_see 3 := ⟨cy_H_see, sg_inGT (List.mem_of_getElem? (i := 782) (by decide +kernel)) rfl, sg_inGT (List.mem_of_getElem? (i := 783) (by decide +kernel)) rfl⟩
def m_H_sortsOf : SgY := (3, yX3_sortsOf, cX3_sortsOf, 5, some .int)
set_option maxRecDepth 100000 in
theorem cw_H_sortsOf : Cond.code m_H_sortsOf.2.1 m_H_sortsOf.2.2.1 m_H_sortsOf.2.2.2.1 m_H_sortsOf.2.2.2.2 ∈ sg_GT := sg_inGT (List.mem_of_getElem? (i := 813) rfl) rfl
theorem cy_H_sortsOf : sg_CY m_H_sortsOf 1 := ⟨by decide +kernel, rfl, sg_inGT (List.mem_of_getElem? (i := 17) (by decide +kernel)) rfl, cw_H_sortsOf, ⟨by decide +kernel, by decide +kernel, by decide +kernel⟩, by decide⟩
theorem cv_H_sortsOf : sg_CV m_H_sortsOf 1 := ⟨cy_H_sortsOf, sg_inGT (List.mem_of_getElem? (i := 811) (by decide +kernel)) rfl, sg_inGT (List.mem_of_getElem? (i := 812) (by decide +kernel)) rfl⟩
def m_I_bitCount : SgY := (26, yJ6_bitCount_0f7a4, cJ6_bitCount_0f7a4, 1, some .int)
set_option maxRecDepth 100000 in
theorem cw_I_bitCount : Cond.code m_I_bitCount.2.1 m_I_bitCount.2.2.1 m_I_bitCount.2.2.2.1 m_I_bitCount.2.2.2.2 ∈ sg_GT := sg_inGT (List.mem_of_getElem? (i := 427) rfl) rfl
theorem cy_I_bitCount : sg_CY m_I_bitCount 1 := ⟨by decide +kernel, rfl, sg_inGT (List.mem_of_getElem? (i := 15) (by decide +kernel)) rfl, cw_I_bitCount, ⟨by decide +kernel, by decide +kernel, by decide +kernel⟩, by decide⟩
theorem cs_I_bitCount : sg_CS m_I_bitCount 1 := ⟨cy_I_bitCount, sg_inGT (List.mem_of_getElem? (i := 426) (by decide +kernel)) rfl⟩
def m_K_clearWeather : SgY := (4, yX4_clearWeather, cX4_clearWeather, 1, none)
set_option maxRecDepth 100000 in
theorem cw_K_clearWeather : Cond.code m_K_clearWeather.2.1 m_K_clearWeather.2.2.1 m_K_clearWeather.2.2.2.1 m_K_clearWeather.2.2.2.2 ∈ sg_GT := sg_inGT (List.mem_of_getElem? (i := 375) rfl) rfl
theorem cy_K_clearWeather : sg_CY m_K_clearWeather 0 := ⟨by decide +kernel, rfl, sg_inGT (List.mem_of_getElem? (i := 2) (by decide +kernel)) rfl, cw_K_clearWeather, ⟨by decide +kernel, by decide +kernel, by decide +kernel⟩, by decide⟩
theorem cv_K_clearWeather : sg_CV m_K_clearWeather 0 := ⟨cy_K_clearWeather, sg_inGT (List.mem_of_getElem? (i := 373) (by decide +kernel)) rfl, sg_inGT (List.mem_of_getElem? (i := 374) (by decide +kernel)) rfl⟩
def m_K_forgottenWith : SgY := (4, yX4_forgottenWith, cX4_forgottenWith, 2, some .int)
set_option maxRecDepth 100000 in
theorem cw_K_forgottenWith : Cond.code m_K_forgottenWith.2.1 m_K_forgottenWith.2.2.1 m_K_forgottenWith.2.2.2.1 m_K_forgottenWith.2.2.2.2 ∈ sg_GT := sg_inGT (List.mem_of_getElem? (i := 775) rfl) rfl
theorem cy_K_forgottenWith : sg_CY m_K_forgottenWith 1 := ⟨by decide +kernel, rfl, sg_inGT (List.mem_of_getElem? (i := 2) (by decide +kernel)) rfl, cw_K_forgottenWith, ⟨by decide +kernel, by decide +kernel, by decide +kernel⟩, by decide⟩
theorem cv_K_forgottenWith : sg_CV m_K_forgottenWith 1 := ⟨cy_K_forgottenWith, sg_inGT (List.mem_of_getElem? (i := 773) (by decide +kernel)) rfl, sg_inGT (List.mem_of_getElem? (i := 774) (by decide +kernel)) rfl⟩
def m_K_supposeEvents : SgY := (4, yX4_supposeEvents, cX4_supposeEvents, 3, none)
set_option maxRecDepth 100000 in
theorem cw_K_supposeEvents : Cond.code m_K_supposeEvents.2.1 m_K_supposeEvents.2.2.1 m_K_supposeEvents.2.2.2.1 m_K_supposeEvents.2.2.2.2 ∈ sg_GT := sg_inGT (List.mem_of_getElem? (i := 801) rfl) rfl
theorem cy_K_supposeEvents : sg_CY m_K_supposeEvents 2 := ⟨by decide +kernel, rfl, sg_inGT (List.mem_of_getElem? (i := 2) (by decide +kernel)) rfl, cw_K_supposeEvents, ⟨by decide +kernel, by decide +kernel, by decide +kernel⟩, by decide⟩
theorem cv_K_supposeEvents : sg_CV m_K_supposeEvents 2 := ⟨cy_K_supposeEvents, sg_inGT (List.mem_of_getElem? (i := 799) (by decide +kernel)) rfl, sg_inGT (List.mem_of_getElem? (i := 800) (by decide +kernel)) rfl⟩
def m_K_tellAnew : SgY := (4, yX4_tellAnew, cX4_tellAnew, 1, none)
set_option maxRecDepth 100000 in
theorem cw_K_tellAnew : Cond.code m_K_tellAnew.2.1 m_K_tellAnew.2.2.1 m_K_tellAnew.2.2.2.1 m_K_tellAnew.2.2.2.2 ∈ sg_GT := sg_inGT (List.mem_of_getElem? (i := 236) rfl) rfl
theorem cy_K_tellAnew : sg_CY m_K_tellAnew 0 := ⟨by decide +kernel, rfl, sg_inGT (List.mem_of_getElem? (i := 2) (by decide +kernel)) rfl, cw_K_tellAnew, ⟨by decide +kernel, by decide +kernel, by decide +kernel⟩, by decide⟩
theorem cv_K_tellAnew : sg_CV m_K_tellAnew 0 := ⟨cy_K_tellAnew, sg_inGT (List.mem_of_getElem? (i := 234) (by decide +kernel)) rfl, sg_inGT (List.mem_of_getElem? (i := 235) (by decide +kernel)) rfl⟩
def m_K_textOf : SgY := (4, yX4_textOf, cX4_textOf, 2, some (.object "SneezeGuard$Text"))
set_option maxRecDepth 100000 in
theorem cw_K_textOf : Cond.code m_K_textOf.2.1 m_K_textOf.2.2.1 m_K_textOf.2.2.2.1 m_K_textOf.2.2.2.2 ∈ sg_GT := sg_inGT (List.mem_of_getElem? (i := 606) rfl) rfl
theorem cy_K_textOf : sg_CY m_K_textOf 1 := ⟨by decide +kernel, rfl, sg_inGT (List.mem_of_getElem? (i := 2) (by decide +kernel)) rfl, cw_K_textOf, ⟨by decide +kernel, by decide +kernel, by decide +kernel⟩, by decide⟩
theorem cv_K_textOf : sg_CV m_K_textOf 1 := ⟨cy_K_textOf, sg_inGT (List.mem_of_getElem? (i := 604) (by decide +kernel)) rfl, sg_inGT (List.mem_of_getElem? (i := 605) (by decide +kernel)) rfl⟩
def m_L_canEncode : SgY := (21, yJ1_canEncode_9a6ad, cJ1_canEncode_9a6ad, 1, some .boolean)
set_option maxRecDepth 100000 in
theorem cw_L_canEncode : Cond.code m_L_canEncode.2.1 m_L_canEncode.2.2.1 m_L_canEncode.2.2.2.1 m_L_canEncode.2.2.2.2 ∈ sg_GT := sg_inGT (List.mem_of_getElem? (i := 292) rfl) rfl
theorem cy_L_canEncode : sg_CY m_L_canEncode 1 := ⟨by decide +kernel, rfl, sg_inGT (List.mem_of_getElem? (i := 9) (by decide +kernel)) rfl, cw_L_canEncode, ⟨by decide +kernel, by decide +kernel, by decide +kernel⟩, by decide⟩
theorem cs_L_canEncode : sg_CS m_L_canEncode 1 := ⟨cy_L_canEncode, sg_inGT (List.mem_of_getElem? (i := 291) (by decide +kernel)) rfl⟩
def m_L_indexOf : SgY := (21, yJ1_indexOf_4cfef, cJ1_indexOf_4cfef, 4, some .int)
set_option maxRecDepth 100000 in
theorem cw_L_indexOf : Cond.code m_L_indexOf.2.1 m_L_indexOf.2.2.1 m_L_indexOf.2.2.2.1 m_L_indexOf.2.2.2.2 ∈ sg_GT := sg_inGT (List.mem_of_getElem? (i := 289) rfl) rfl
theorem cy_L_indexOf : sg_CY m_L_indexOf 4 := ⟨by decide +kernel, rfl, sg_inGT (List.mem_of_getElem? (i := 9) (by decide +kernel)) rfl, cw_L_indexOf, ⟨by decide +kernel, by decide +kernel, by decide +kernel⟩, by decide⟩
theorem cs_L_indexOf : sg_CS m_L_indexOf 4 := ⟨cy_L_indexOf, sg_inGT (List.mem_of_getElem? (i := 288) (by decide +kernel)) rfl⟩
def m_L_indexOfChar : SgY := (21, yJ1_indexOfChar_4cfef, cJ1_indexOfChar_4cfef, 6, some .int)
set_option maxRecDepth 100000 in
theorem cw_L_indexOfChar : Cond.code m_L_indexOfChar.2.1 m_L_indexOfChar.2.2.1 m_L_indexOfChar.2.2.2.1 m_L_indexOfChar.2.2.2.2 ∈ sg_GT := sg_inGT (List.mem_of_getElem? (i := 301) rfl) rfl
theorem cy_L_indexOfChar : sg_CY m_L_indexOfChar 4 := ⟨by decide +kernel, rfl, sg_inGT (List.mem_of_getElem? (i := 9) (by decide +kernel)) rfl, cw_L_indexOfChar, ⟨by decide +kernel, by decide +kernel, by decide +kernel⟩, by decide⟩
theorem cs_L_indexOfChar : sg_CS m_L_indexOfChar 4 := ⟨cy_L_indexOfChar, sg_inGT (List.mem_of_getElem? (i := 300) (by decide +kernel)) rfl⟩
def m_M_alike : SgY := (11, yX11_alike, cX11_alike, 7, some .int)
set_option maxRecDepth 100000 in
theorem cw_M_alike : Cond.code m_M_alike.2.1 m_M_alike.2.2.1 m_M_alike.2.2.2.1 m_M_alike.2.2.2.2 ∈ sg_GT := sg_inGT (List.mem_of_getElem? (i := 1394) rfl) rfl
theorem cy_M_alike : sg_CY m_M_alike 2 := ⟨by decide +kernel, rfl, sg_inGT (List.mem_of_getElem? (i := 20) (by decide +kernel)) rfl, cw_M_alike, ⟨by decide +kernel, by decide +kernel, by decide +kernel⟩, by decide⟩
theorem cv_M_alike : sg_CV m_M_alike 2 := ⟨cy_M_alike, sg_inGT (List.mem_of_getElem? (i := 1393) (by decide +kernel)) rfl, sg_inP (List.mem_of_getElem? (i := 56) (by decide +kernel)) rfl⟩
def m_M_all : SgY := (11, yX11_all, cX11_all, 1, some .int)
set_option maxRecDepth 100000 in
theorem cw_M_all : Cond.code m_M_all.2.1 m_M_all.2.2.1 m_M_all.2.2.2.1 m_M_all.2.2.2.2 ∈ sg_GT := sg_inGT (List.mem_of_getElem? (i := 1285) rfl) rfl
theorem cy_M_all : sg_CY m_M_all 0 := ⟨by decide +kernel, rfl, sg_inGT (List.mem_of_getElem? (i := 20) (by decide +kernel)) rfl, cw_M_all, ⟨by decide +kernel, by decide +kernel, by decide +kernel⟩, by decide⟩
theorem cv_M_all : sg_CV m_M_all 0 := ⟨cy_M_all, sg_inGT (List.mem_of_getElem? (i := 1283) (by decide +kernel)) rfl, sg_inGT (List.mem_of_getElem? (i := 1284) (by decide +kernel)) rfl⟩
def m_M_allNow : SgY := (11, yX11_allNow, cX11_allNow, 3, some .int)
set_option maxRecDepth 100000 in
theorem cw_M_allNow : Cond.code m_M_allNow.2.1 m_M_allNow.2.2.1 m_M_allNow.2.2.2.1 m_M_allNow.2.2.2.2 ∈ sg_GT := sg_inGT (List.mem_of_getElem? (i := 1289) rfl) rfl
theorem cy_M_allNow : sg_CY m_M_allNow 0 := ⟨by decide +kernel, rfl, sg_inGT (List.mem_of_getElem? (i := 20) (by decide +kernel)) rfl, cw_M_allNow, ⟨by decide +kernel, by decide +kernel, by decide +kernel⟩, by decide⟩
theorem cv_M_allNow : sg_CV m_M_allNow 0 := ⟨cy_M_allNow, sg_inGT (List.mem_of_getElem? (i := 1288) (by decide +kernel)) rfl, sg_inP (List.mem_of_getElem? (i := 42) (by decide +kernel)) rfl⟩
def m_M_apart : SgY := (11, yX11_apart, cX11_apart, 2, some .int)
set_option maxRecDepth 100000 in
theorem cw_M_apart : Cond.code m_M_apart.2.1 m_M_apart.2.2.1 m_M_apart.2.2.2.1 m_M_apart.2.2.2.2 ∈ sg_GT := sg_inGT (List.mem_of_getElem? (i := 1238) rfl) rfl
theorem cy_M_apart : sg_CY m_M_apart 2 := ⟨by decide +kernel, rfl, sg_inGT (List.mem_of_getElem? (i := 20) (by decide +kernel)) rfl, cw_M_apart, ⟨by decide +kernel, by decide +kernel, by decide +kernel⟩, by decide⟩
theorem cs_M_apart : sg_CS m_M_apart 2 := ⟨cy_M_apart, sg_inGT (List.mem_of_getElem? (i := 1237) (by decide +kernel)) rfl⟩
def m_M_ask : SgY := (11, yX11_ask, cX11_ask, 2, some .int)
set_option maxRecDepth 100000 in
theorem cw_M_ask : Cond.code m_M_ask.2.1 m_M_ask.2.2.1 m_M_ask.2.2.2.1 m_M_ask.2.2.2.2 ∈ sg_GT := sg_inGT (List.mem_of_getElem? (i := 1386) rfl) rfl
theorem cy_M_ask : sg_CY m_M_ask 1 := ⟨by decide +kernel, rfl, sg_inGT (List.mem_of_getElem? (i := 20) (by decide +kernel)) rfl, cw_M_ask, ⟨by decide +kernel, by decide +kernel, by decide +kernel⟩, by decide⟩
theorem cv_M_ask : sg_CV m_M_ask 1 := ⟨cy_M_ask, sg_inGT (List.mem_of_getElem? (i := 1384) (by decide +kernel)) rfl, sg_inGT (List.mem_of_getElem? (i := 1385) (by decide +kernel)) rfl⟩
def m_M_askOf : SgY := (11, yX11_askOf, cX11_askOf, 5, some .int)
set_option maxRecDepth 100000 in
theorem cw_M_askOf : Cond.code m_M_askOf.2.1 m_M_askOf.2.2.1 m_M_askOf.2.2.2.1 m_M_askOf.2.2.2.2 ∈ sg_GT := sg_inGT (List.mem_of_getElem? (i := 1390) rfl) rfl
theorem cy_M_askOf : sg_CY m_M_askOf 1 := ⟨by decide +kernel, rfl, sg_inGT (List.mem_of_getElem? (i := 20) (by decide +kernel)) rfl, cw_M_askOf, ⟨by decide +kernel, by decide +kernel, by decide +kernel⟩, by decide⟩
theorem cv_M_askOf : sg_CV m_M_askOf 1 := ⟨cy_M_askOf, sg_inGT (List.mem_of_getElem? (i := 1389) (by decide +kernel)) rfl, sg_inP (List.mem_of_getElem? (i := 55) (by decide +kernel)) rfl⟩
def m_M_at : SgY := (11, yX11_at, cX11_at, 4, some .int)
set_option maxRecDepth 100000 in
theorem cw_M_at : Cond.code m_M_at.2.1 m_M_at.2.2.1 m_M_at.2.2.2.1 m_M_at.2.2.2.2 ∈ sg_GT := sg_inGT (List.mem_of_getElem? (i := 1204) rfl) rfl
theorem cy_M_at : sg_CY m_M_at 3 := ⟨by decide +kernel, rfl, sg_inGT (List.mem_of_getElem? (i := 20) (by decide +kernel)) rfl, cw_M_at, ⟨by decide +kernel, by decide +kernel, by decide +kernel⟩, by decide⟩
theorem cv_M_at : sg_CV m_M_at 3 := ⟨cy_M_at, sg_inGT (List.mem_of_getElem? (i := 1202) (by decide +kernel)) rfl, sg_inGT (List.mem_of_getElem? (i := 1203) (by decide +kernel)) rfl⟩
def m_M_atBy : SgY := (11, yX11_atBy, cX11_atBy, 5, some .int)
set_option maxRecDepth 100000 in
theorem cw_M_atBy : Cond.code m_M_atBy.2.1 m_M_atBy.2.2.1 m_M_atBy.2.2.2.1 m_M_atBy.2.2.2.2 ∈ sg_GT := sg_inGT (List.mem_of_getElem? (i := 1246) rfl) rfl
theorem cy_M_atBy : sg_CY m_M_atBy 3 := ⟨by decide +kernel, rfl, sg_inGT (List.mem_of_getElem? (i := 20) (by decide +kernel)) rfl, cw_M_atBy, ⟨by decide +kernel, by decide +kernel, by decide +kernel⟩, by decide⟩
theorem cv_M_atBy : sg_CV m_M_atBy 3 := ⟨cy_M_atBy, sg_inGT (List.mem_of_getElem? (i := 1245) (by decide +kernel)) rfl, sg_inP (List.mem_of_getElem? (i := 37) (by decide +kernel)) rfl⟩
def m_M_back : SgY := (11, yX11_back, cX11_back, 1, some .int)
set_option maxRecDepth 100000 in
theorem cw_M_back : Cond.code m_M_back.2.1 m_M_back.2.2.1 m_M_back.2.2.2.1 m_M_back.2.2.2.2 ∈ sg_GT := sg_inGT (List.mem_of_getElem? (i := 1195) rfl) rfl
theorem cy_M_back : sg_CY m_M_back 0 := ⟨by decide +kernel, rfl, sg_inGT (List.mem_of_getElem? (i := 20) (by decide +kernel)) rfl, cw_M_back, ⟨by decide +kernel, by decide +kernel, by decide +kernel⟩, by decide⟩
theorem cv_M_back : sg_CV m_M_back 0 := ⟨cy_M_back, sg_inGT (List.mem_of_getElem? (i := 1193) (by decide +kernel)) rfl, sg_inGT (List.mem_of_getElem? (i := 1194) (by decide +kernel)) rfl⟩
def m_M_busy : SgY := (11, yX11_busy, cX11_busy, 1, some .int)
set_option maxRecDepth 100000 in
theorem cw_M_busy : Cond.code m_M_busy.2.1 m_M_busy.2.2.1 m_M_busy.2.2.2.1 m_M_busy.2.2.2.2 ∈ sg_GT := sg_inGT (List.mem_of_getElem? (i := 1293) rfl) rfl
theorem cy_M_busy : sg_CY m_M_busy 0 := ⟨by decide +kernel, rfl, sg_inGT (List.mem_of_getElem? (i := 20) (by decide +kernel)) rfl, cw_M_busy, ⟨by decide +kernel, by decide +kernel, by decide +kernel⟩, by decide⟩
theorem cv_M_busy : sg_CV m_M_busy 0 := ⟨cy_M_busy, sg_inGT (List.mem_of_getElem? (i := 1291) (by decide +kernel)) rfl, sg_inGT (List.mem_of_getElem? (i := 1292) (by decide +kernel)) rfl⟩
def m_M_busyNow : SgY := (11, yX11_busyNow, cX11_busyNow, 4, some .int)
set_option maxRecDepth 100000 in
theorem cw_M_busyNow : Cond.code m_M_busyNow.2.1 m_M_busyNow.2.2.1 m_M_busyNow.2.2.2.1 m_M_busyNow.2.2.2.2 ∈ sg_GT := sg_inGT (List.mem_of_getElem? (i := 1297) rfl) rfl
theorem cy_M_busyNow : sg_CY m_M_busyNow 0 := ⟨by decide +kernel, rfl, sg_inGT (List.mem_of_getElem? (i := 20) (by decide +kernel)) rfl, cw_M_busyNow, ⟨by decide +kernel, by decide +kernel, by decide +kernel⟩, by decide⟩
theorem cv_M_busyNow : sg_CV m_M_busyNow 0 := ⟨cy_M_busyNow, sg_inGT (List.mem_of_getElem? (i := 1296) (by decide +kernel)) rfl, sg_inP (List.mem_of_getElem? (i := 43) (by decide +kernel)) rfl⟩
def m_M_chance : SgY := (11, yX11_chance, cX11_chance, 4, some .long)
set_option maxRecDepth 100000 in
theorem cw_M_chance : Cond.code m_M_chance.2.1 m_M_chance.2.2.1 m_M_chance.2.2.2.1 m_M_chance.2.2.2.2 ∈ sg_GT := sg_inGT (List.mem_of_getElem? (i := 1398) rfl) rfl
theorem cy_M_chance : sg_CY m_M_chance 3 := ⟨by decide +kernel, rfl, sg_inGT (List.mem_of_getElem? (i := 20) (by decide +kernel)) rfl, cw_M_chance, ⟨by decide +kernel, by decide +kernel, by decide +kernel⟩, by decide⟩
theorem cv_M_chance : sg_CV m_M_chance 3 := ⟨cy_M_chance, sg_inGT (List.mem_of_getElem? (i := 1396) (by decide +kernel)) rfl, sg_inGT (List.mem_of_getElem? (i := 1397) (by decide +kernel)) rfl⟩
def m_M_chanceOf : SgY := (11, yX11_chanceOf, cX11_chanceOf, 10, some .long)
set_option maxRecDepth 100000 in
theorem cw_M_chanceOf : Cond.code m_M_chanceOf.2.1 m_M_chanceOf.2.2.1 m_M_chanceOf.2.2.2.1 m_M_chanceOf.2.2.2.2 ∈ sg_GT := sg_inGT (List.mem_of_getElem? (i := 1403) rfl) rfl
theorem cy_M_chanceOf : sg_CY m_M_chanceOf 3 := ⟨by decide +kernel, rfl, sg_inGT (List.mem_of_getElem? (i := 20) (by decide +kernel)) rfl, cw_M_chanceOf, ⟨by decide +kernel, by decide +kernel, by decide +kernel⟩, by decide⟩
theorem cv_M_chanceOf : sg_CV m_M_chanceOf 3 := ⟨cy_M_chanceOf, sg_inGT (List.mem_of_getElem? (i := 1402) (by decide +kernel)) rfl, sg_inP (List.mem_of_getElem? (i := 57) (by decide +kernel)) rfl⟩
def m_M_changes : SgY := (11, yX11_changes, cX11_changes, 2, some .int)
set_option maxRecDepth 100000 in
theorem cw_M_changes : Cond.code m_M_changes.2.1 m_M_changes.2.2.1 m_M_changes.2.2.2.1 m_M_changes.2.2.2.2 ∈ sg_GT := sg_inGT (List.mem_of_getElem? (i := 1258) rfl) rfl
theorem cy_M_changes : sg_CY m_M_changes 1 := ⟨by decide +kernel, rfl, sg_inGT (List.mem_of_getElem? (i := 20) (by decide +kernel)) rfl, cw_M_changes, ⟨by decide +kernel, by decide +kernel, by decide +kernel⟩, by decide⟩
theorem cv_M_changes : sg_CV m_M_changes 1 := ⟨cy_M_changes, sg_inGT (List.mem_of_getElem? (i := 1256) (by decide +kernel)) rfl, sg_inGT (List.mem_of_getElem? (i := 1257) (by decide +kernel)) rfl⟩
def m_M_changesIn : SgY := (11, yX11_changesIn, cX11_changesIn, 4, some .int)
set_option maxRecDepth 100000 in
theorem cw_M_changesIn : Cond.code m_M_changesIn.2.1 m_M_changesIn.2.2.1 m_M_changesIn.2.2.2.1 m_M_changesIn.2.2.2.2 ∈ sg_GT := sg_inGT (List.mem_of_getElem? (i := 1262) rfl) rfl
theorem cy_M_changesIn : sg_CY m_M_changesIn 1 := ⟨by decide +kernel, rfl, sg_inGT (List.mem_of_getElem? (i := 20) (by decide +kernel)) rfl, cw_M_changesIn, ⟨by decide +kernel, by decide +kernel, by decide +kernel⟩, by decide⟩
theorem cv_M_changesIn : sg_CV m_M_changesIn 1 := ⟨cy_M_changesIn, sg_inGT (List.mem_of_getElem? (i := 1261) (by decide +kernel)) rfl, sg_inP (List.mem_of_getElem? (i := 39) (by decide +kernel)) rfl⟩
def m_M_coldsOf : SgY := (11, yX11_coldsOf, cX11_coldsOf, 6, some .int)
set_option maxRecDepth 100000 in
theorem cw_M_coldsOf : Cond.code m_M_coldsOf.2.1 m_M_coldsOf.2.2.1 m_M_coldsOf.2.2.2.1 m_M_coldsOf.2.2.2.2 ∈ sg_GT := sg_inGT (List.mem_of_getElem? (i := 1382) rfl) rfl
theorem cy_M_coldsOf : sg_CY m_M_coldsOf 1 := ⟨by decide +kernel, rfl, sg_inGT (List.mem_of_getElem? (i := 20) (by decide +kernel)) rfl, cw_M_coldsOf, ⟨by decide +kernel, by decide +kernel, by decide +kernel⟩, by decide⟩
theorem cv_M_coldsOf : sg_CV m_M_coldsOf 1 := ⟨cy_M_coldsOf, sg_inGT (List.mem_of_getElem? (i := 1381) (by decide +kernel)) rfl, sg_inP (List.mem_of_getElem? (i := 54) (by decide +kernel)) rfl⟩
def m_M_copy : SgY := (11, yX11_copy, cX11_copy, 7, some .int)
set_option maxRecDepth 100000 in
theorem cw_M_copy : Cond.code m_M_copy.2.1 m_M_copy.2.2.1 m_M_copy.2.2.2.1 m_M_copy.2.2.2.2 ∈ sg_GT := sg_inGT (List.mem_of_getElem? (i := 1121) rfl) rfl
theorem cy_M_copy : sg_CY m_M_copy 5 := ⟨by decide +kernel, rfl, sg_inGT (List.mem_of_getElem? (i := 20) (by decide +kernel)) rfl, cw_M_copy, ⟨by decide +kernel, by decide +kernel, by decide +kernel⟩, by decide⟩
theorem cv_M_copy : sg_CV m_M_copy 5 := ⟨cy_M_copy, sg_inGT (List.mem_of_getElem? (i := 1119) (by decide +kernel)) rfl, sg_inGT (List.mem_of_getElem? (i := 1120) (by decide +kernel)) rfl⟩
def m_M_count : SgY := (11, yX11_count, cX11_count, 2, some .int)
set_option maxRecDepth 100000 in
theorem cw_M_count : Cond.code m_M_count.2.1 m_M_count.2.2.1 m_M_count.2.2.2.1 m_M_count.2.2.2.2 ∈ sg_GT := sg_inGT (List.mem_of_getElem? (i := 1435) rfl) rfl
theorem cy_M_count : sg_CY m_M_count 1 := ⟨by decide +kernel, rfl, sg_inGT (List.mem_of_getElem? (i := 20) (by decide +kernel)) rfl, cw_M_count, ⟨by decide +kernel, by decide +kernel, by decide +kernel⟩, by decide⟩
theorem cv_M_count : sg_CV m_M_count 1 := ⟨cy_M_count, sg_inGT (List.mem_of_getElem? (i := 1433) (by decide +kernel)) rfl, sg_inGT (List.mem_of_getElem? (i := 1434) (by decide +kernel)) rfl⟩
def m_M_cut : SgY := (11, yX11_cut, cX11_cut, 2, some .int)
set_option maxRecDepth 100000 in
theorem cw_M_cut : Cond.code m_M_cut.2.1 m_M_cut.2.2.1 m_M_cut.2.2.2.1 m_M_cut.2.2.2.2 ∈ sg_GT := sg_inGT (List.mem_of_getElem? (i := 1112) rfl) rfl
theorem cy_M_cut : sg_CY m_M_cut 2 := ⟨by decide +kernel, rfl, sg_inGT (List.mem_of_getElem? (i := 20) (by decide +kernel)) rfl, cw_M_cut, ⟨by decide +kernel, by decide +kernel, by decide +kernel⟩, by decide⟩
theorem cs_M_cut : sg_CS m_M_cut 2 := ⟨cy_M_cut, sg_inGT (List.mem_of_getElem? (i := 1111) (by decide +kernel)) rfl⟩
def m_M_decades : SgY := (11, yX11_decades, cX11_decades, 4, some .int)
set_option maxRecDepth 100000 in
theorem cw_M_decades : Cond.code m_M_decades.2.1 m_M_decades.2.2.1 m_M_decades.2.2.2.1 m_M_decades.2.2.2.2 ∈ sg_GT := sg_inGT (List.mem_of_getElem? (i := 1414) rfl) rfl
theorem cy_M_decades : sg_CY m_M_decades 3 := ⟨by decide +kernel, rfl, sg_inGT (List.mem_of_getElem? (i := 20) (by decide +kernel)) rfl, cw_M_decades, ⟨by decide +kernel, by decide +kernel, by decide +kernel⟩, by decide⟩
theorem cv_M_decades : sg_CV m_M_decades 3 := ⟨cy_M_decades, sg_inGT (List.mem_of_getElem? (i := 1412) (by decide +kernel)) rfl, sg_inGT (List.mem_of_getElem? (i := 1413) (by decide +kernel)) rfl⟩
def m_M_decadesOf : SgY := (11, yX11_decadesOf, cX11_decadesOf, 8, some .int)
set_option maxRecDepth 100000 in
theorem cw_M_decadesOf : Cond.code m_M_decadesOf.2.1 m_M_decadesOf.2.2.1 m_M_decadesOf.2.2.2.1 m_M_decadesOf.2.2.2.2 ∈ sg_GT := sg_inGT (List.mem_of_getElem? (i := 1419) rfl) rfl
theorem cy_M_decadesOf : sg_CY m_M_decadesOf 3 := ⟨by decide +kernel, rfl, sg_inGT (List.mem_of_getElem? (i := 20) (by decide +kernel)) rfl, cw_M_decadesOf, ⟨by decide +kernel, by decide +kernel, by decide +kernel⟩, by decide⟩
theorem cv_M_decadesOf : sg_CV m_M_decadesOf 3 := ⟨cy_M_decadesOf, sg_inGT (List.mem_of_getElem? (i := 1418) (by decide +kernel)) rfl, sg_inP (List.mem_of_getElem? (i := 58) (by decide +kernel)) rfl⟩
def m_M_digest : SgY := (11, yX11_digest, cX11_digest, 4, some .long)
set_option maxRecDepth 100000 in
theorem cw_M_digest : Cond.code m_M_digest.2.1 m_M_digest.2.2.1 m_M_digest.2.2.2.1 m_M_digest.2.2.2.2 ∈ sg_GT := sg_inGT (List.mem_of_getElem? (i := 1439) rfl) rfl
theorem cy_M_digest : sg_CY m_M_digest 0 := ⟨by decide +kernel, rfl, sg_inGT (List.mem_of_getElem? (i := 20) (by decide +kernel)) rfl, cw_M_digest, ⟨by decide +kernel, by decide +kernel, by decide +kernel⟩, by decide⟩
theorem cv_M_digest : sg_CV m_M_digest 0 := ⟨cy_M_digest, sg_inGT (List.mem_of_getElem? (i := 1437) (by decide +kernel)) rfl, sg_inGT (List.mem_of_getElem? (i := 1438) (by decide +kernel)) rfl⟩
def m_M_dust : SgY := (11, yX11_dust, cX11_dust, 3, some .int)
set_option maxRecDepth 100000 in
theorem cw_M_dust : Cond.code m_M_dust.2.1 m_M_dust.2.2.1 m_M_dust.2.2.2.1 m_M_dust.2.2.2.2 ∈ sg_GT := sg_inGT (List.mem_of_getElem? (i := 1320) rfl) rfl
theorem cy_M_dust : sg_CY m_M_dust 2 := ⟨by decide +kernel, rfl, sg_inGT (List.mem_of_getElem? (i := 20) (by decide +kernel)) rfl, cw_M_dust, ⟨by decide +kernel, by decide +kernel, by decide +kernel⟩, by decide⟩
theorem cv_M_dust : sg_CV m_M_dust 2 := ⟨cy_M_dust, sg_inGT (List.mem_of_getElem? (i := 1318) (by decide +kernel)) rfl, sg_inGT (List.mem_of_getElem? (i := 1319) (by decide +kernel)) rfl⟩
def m_M_dustOf : SgY := (11, yX11_dustOf, cX11_dustOf, 7, some .int)
set_option maxRecDepth 100000 in
theorem cw_M_dustOf : Cond.code m_M_dustOf.2.1 m_M_dustOf.2.2.1 m_M_dustOf.2.2.2.1 m_M_dustOf.2.2.2.2 ∈ sg_GT := sg_inGT (List.mem_of_getElem? (i := 1324) rfl) rfl
theorem cy_M_dustOf : sg_CY m_M_dustOf 2 := ⟨by decide +kernel, rfl, sg_inGT (List.mem_of_getElem? (i := 20) (by decide +kernel)) rfl, cw_M_dustOf, ⟨by decide +kernel, by decide +kernel, by decide +kernel⟩, by decide⟩
theorem cv_M_dustOf : sg_CV m_M_dustOf 2 := ⟨cy_M_dustOf, sg_inGT (List.mem_of_getElem? (i := 1323) (by decide +kernel)) rfl, sg_inP (List.mem_of_getElem? (i := 46) (by decide +kernel)) rfl⟩
def m_M_event : SgY := (11, yX11_event, cX11_event, 4, some .int)
set_option maxRecDepth 100000 in
theorem cw_M_event : Cond.code m_M_event.2.1 m_M_event.2.2.1 m_M_event.2.2.2.1 m_M_event.2.2.2.2 ∈ sg_GT := sg_inGT (List.mem_of_getElem? (i := 1182) rfl) rfl
theorem cy_M_event : sg_CY m_M_event 3 := ⟨by decide +kernel, rfl, sg_inGT (List.mem_of_getElem? (i := 20) (by decide +kernel)) rfl, cw_M_event, ⟨by decide +kernel, by decide +kernel, by decide +kernel⟩, by decide⟩
theorem cv_M_event : sg_CV m_M_event 3 := ⟨cy_M_event, sg_inGT (List.mem_of_getElem? (i := 1180) (by decide +kernel)) rfl, sg_inGT (List.mem_of_getElem? (i := 1181) (by decide +kernel)) rfl⟩
def m_M_fault : SgY := (11, yX11_fault, cX11_fault, 2, some .int)
set_option maxRecDepth 100000 in
theorem cw_M_fault : Cond.code m_M_fault.2.1 m_M_fault.2.2.1 m_M_fault.2.2.2.1 m_M_fault.2.2.2.2 ∈ sg_GT := sg_inGT (List.mem_of_getElem? (i := 1141) rfl) rfl
theorem cy_M_fault : sg_CY m_M_fault 1 := ⟨by decide +kernel, rfl, sg_inGT (List.mem_of_getElem? (i := 20) (by decide +kernel)) rfl, cw_M_fault, ⟨by decide +kernel, by decide +kernel, by decide +kernel⟩, by decide⟩
theorem cv_M_fault : sg_CV m_M_fault 1 := ⟨cy_M_fault, sg_inGT (List.mem_of_getElem? (i := 1139) (by decide +kernel)) rfl, sg_inGT (List.mem_of_getElem? (i := 1140) (by decide +kernel)) rfl⟩
def m_M_figureOf : SgY := (11, yX11_figureOf, cX11_figureOf, 3, some .int)
set_option maxRecDepth 100000 in
theorem cw_M_figureOf : Cond.code m_M_figureOf.2.1 m_M_figureOf.2.2.1 m_M_figureOf.2.2.2.1 m_M_figureOf.2.2.2.2 ∈ sg_GT := sg_inGT (List.mem_of_getElem? (i := 1155) rfl) rfl
theorem cy_M_figureOf : sg_CY m_M_figureOf 3 := ⟨by decide +kernel, rfl, sg_inGT (List.mem_of_getElem? (i := 20) (by decide +kernel)) rfl, cw_M_figureOf, ⟨by decide +kernel, by decide +kernel, by decide +kernel⟩, by decide⟩
theorem cs_M_figureOf : sg_CS m_M_figureOf 3 := ⟨cy_M_figureOf, sg_inGT (List.mem_of_getElem? (i := 1154) (by decide +kernel)) rfl⟩
def m_M_find : SgY := (11, yX11_find, cX11_find, 1, none)
set_option maxRecDepth 100000 in
theorem cw_M_find : Cond.code m_M_find.2.1 m_M_find.2.2.1 m_M_find.2.2.2.1 m_M_find.2.2.2.2 ∈ sg_GT := sg_inGT (List.mem_of_getElem? (i := 1208) rfl) rfl
theorem cy_M_find : sg_CY m_M_find 0 := ⟨by decide +kernel, rfl, sg_inGT (List.mem_of_getElem? (i := 20) (by decide +kernel)) rfl, cw_M_find, ⟨by decide +kernel, by decide +kernel, by decide +kernel⟩, by decide⟩
theorem cv_M_find : sg_CV m_M_find 0 := ⟨cy_M_find, sg_inGT (List.mem_of_getElem? (i := 1207) (by decide +kernel)) rfl, sg_inP (List.mem_of_getElem? (i := 29) (by decide +kernel)) rfl⟩
def m_M_finds : SgY := (11, yX11_finds, cX11_finds, 2, some .int)
set_option maxRecDepth 100000 in
theorem cw_M_finds : Cond.code m_M_finds.2.1 m_M_finds.2.2.1 m_M_finds.2.2.2.1 m_M_finds.2.2.2.2 ∈ sg_GT := sg_inGT (List.mem_of_getElem? (i := 1097) rfl) rfl
theorem cy_M_finds : sg_CY m_M_finds 1 := ⟨by decide +kernel, rfl, sg_inGT (List.mem_of_getElem? (i := 20) (by decide +kernel)) rfl, cw_M_finds, ⟨by decide +kernel, by decide +kernel, by decide +kernel⟩, by decide⟩
theorem cv_M_finds : sg_CV m_M_finds 1 := ⟨cy_M_finds, sg_inGT (List.mem_of_getElem? (i := 1096) (by decide +kernel)) rfl, sg_inP (List.mem_of_getElem? (i := 21) (by decide +kernel)) rfl⟩
def m_M_forget : SgY := (11, yX11_forget, cX11_forget, 2, some .int)
set_option maxRecDepth 100000 in
theorem cw_M_forget : Cond.code m_M_forget.2.1 m_M_forget.2.2.1 m_M_forget.2.2.2.1 m_M_forget.2.2.2.2 ∈ sg_GT := sg_inGT (List.mem_of_getElem? (i := 1354) rfl) rfl
theorem cy_M_forget : sg_CY m_M_forget 0 := ⟨by decide +kernel, rfl, sg_inGT (List.mem_of_getElem? (i := 20) (by decide +kernel)) rfl, cw_M_forget, ⟨by decide +kernel, by decide +kernel, by decide +kernel⟩, by decide⟩
theorem cv_M_forget : sg_CV m_M_forget 0 := ⟨cy_M_forget, sg_inGT (List.mem_of_getElem? (i := 1352) (by decide +kernel)) rfl, sg_inGT (List.mem_of_getElem? (i := 1353) (by decide +kernel)) rfl⟩
def m_M_forgotten : SgY := (11, yX11_forgotten, cX11_forgotten, 1, some .int)
set_option maxRecDepth 100000 in
theorem cw_M_forgotten : Cond.code m_M_forgotten.2.1 m_M_forgotten.2.2.1 m_M_forgotten.2.2.2.1 m_M_forgotten.2.2.2.2 ∈ sg_GT := sg_inGT (List.mem_of_getElem? (i := 1266) rfl) rfl
theorem cy_M_forgotten : sg_CY m_M_forgotten 0 := ⟨by decide +kernel, rfl, sg_inGT (List.mem_of_getElem? (i := 20) (by decide +kernel)) rfl, cw_M_forgotten, ⟨by decide +kernel, by decide +kernel, by decide +kernel⟩, by decide⟩
theorem cv_M_forgotten : sg_CV m_M_forgotten 0 := ⟨cy_M_forgotten, sg_inGT (List.mem_of_getElem? (i := 1264) (by decide +kernel)) rfl, sg_inGT (List.mem_of_getElem? (i := 1265) (by decide +kernel)) rfl⟩
def m_M_forgottenNow : SgY := (11, yX11_forgottenNow, cX11_forgottenNow, 4, some .int)
set_option maxRecDepth 100000 in
theorem cw_M_forgottenNow : Cond.code m_M_forgottenNow.2.1 m_M_forgottenNow.2.2.1 m_M_forgottenNow.2.2.2.1 m_M_forgottenNow.2.2.2.2 ∈ sg_GT := sg_inGT (List.mem_of_getElem? (i := 1270) rfl) rfl
theorem cy_M_forgottenNow : sg_CY m_M_forgottenNow 0 := ⟨by decide +kernel, rfl, sg_inGT (List.mem_of_getElem? (i := 20) (by decide +kernel)) rfl, cw_M_forgottenNow, ⟨by decide +kernel, by decide +kernel, by decide +kernel⟩, by decide⟩
theorem cv_M_forgottenNow : sg_CV m_M_forgottenNow 0 := ⟨cy_M_forgottenNow, sg_inGT (List.mem_of_getElem? (i := 1269) (by decide +kernel)) rfl, sg_inP (List.mem_of_getElem? (i := 40) (by decide +kernel)) rfl⟩
def m_M_get : SgY := (11, yX11_get, cX11_get, 4, some .int)
set_option maxRecDepth 100000 in
theorem cw_M_get : Cond.code m_M_get.2.1 m_M_get.2.2.1 m_M_get.2.2.2.1 m_M_get.2.2.2.2 ∈ sg_GT := sg_inGT (List.mem_of_getElem? (i := 1116) rfl) rfl
theorem cy_M_get : sg_CY m_M_get 3 := ⟨by decide +kernel, rfl, sg_inGT (List.mem_of_getElem? (i := 20) (by decide +kernel)) rfl, cw_M_get, ⟨by decide +kernel, by decide +kernel, by decide +kernel⟩, by decide⟩
theorem cv_M_get : sg_CV m_M_get 3 := ⟨cy_M_get, sg_inGT (List.mem_of_getElem? (i := 1114) (by decide +kernel)) rfl, sg_inGT (List.mem_of_getElem? (i := 1115) (by decide +kernel)) rfl⟩
def m_M_goes : SgY := (11, yX11_goes, cX11_goes, 2, none)
set_option maxRecDepth 100000 in
theorem cw_M_goes : Cond.code m_M_goes.2.1 m_M_goes.2.2.1 m_M_goes.2.2.2.1 m_M_goes.2.2.2.2 ∈ sg_GT := sg_inGT (List.mem_of_getElem? (i := 1220) rfl) rfl
theorem cy_M_goes : sg_CY m_M_goes 1 := ⟨by decide +kernel, rfl, sg_inGT (List.mem_of_getElem? (i := 20) (by decide +kernel)) rfl, cw_M_goes, ⟨by decide +kernel, by decide +kernel, by decide +kernel⟩, by decide⟩
theorem cv_M_goes : sg_CV m_M_goes 1 := ⟨cy_M_goes, sg_inGT (List.mem_of_getElem? (i := 1219) (by decide +kernel)) rfl, sg_inP (List.mem_of_getElem? (i := 32) (by decide +kernel)) rfl⟩
def m_M_greater : SgY := (11, yX11_greater, cX11_greater, 2, some .int)
set_option maxRecDepth 100000 in
theorem cw_M_greater : Cond.code m_M_greater.2.1 m_M_greater.2.2.1 m_M_greater.2.2.2.1 m_M_greater.2.2.2.2 ∈ sg_GT := sg_inGT (List.mem_of_getElem? (i := 1281) rfl) rfl
theorem cy_M_greater : sg_CY m_M_greater 2 := ⟨by decide +kernel, rfl, sg_inGT (List.mem_of_getElem? (i := 20) (by decide +kernel)) rfl, cw_M_greater, ⟨by decide +kernel, by decide +kernel, by decide +kernel⟩, by decide⟩
theorem cs_M_greater : sg_CS m_M_greater 2 := ⟨cy_M_greater, sg_inGT (List.mem_of_getElem? (i := 1280) (by decide +kernel)) rfl⟩
def m_M_heardBy : SgY := (11, yX11_heardBy, cX11_heardBy, 5, some .int)
set_option maxRecDepth 100000 in
theorem cw_M_heardBy : Cond.code m_M_heardBy.2.1 m_M_heardBy.2.2.1 m_M_heardBy.2.2.2.1 m_M_heardBy.2.2.2.2 ∈ sg_GT := sg_inGT (List.mem_of_getElem? (i := 1235) rfl) rfl
theorem cy_M_heardBy : sg_CY m_M_heardBy 1 := ⟨by decide +kernel, rfl, sg_inGT (List.mem_of_getElem? (i := 20) (by decide +kernel)) rfl, cw_M_heardBy, ⟨by decide +kernel, by decide +kernel, by decide +kernel⟩, by decide⟩
theorem cv_M_heardBy : sg_CV m_M_heardBy 1 := ⟨cy_M_heardBy, sg_inGT (List.mem_of_getElem? (i := 1234) (by decide +kernel)) rfl, sg_inP (List.mem_of_getElem? (i := 35) (by decide +kernel)) rfl⟩
def m_M_hush : SgY := (11, yX11_hush, cX11_hush, 3, some .int)
set_option maxRecDepth 100000 in
theorem cw_M_hush : Cond.code m_M_hush.2.1 m_M_hush.2.2.1 m_M_hush.2.2.2.1 m_M_hush.2.2.2.2 ∈ sg_GT := sg_inGT (List.mem_of_getElem? (i := 1328) rfl) rfl
theorem cy_M_hush : sg_CY m_M_hush 2 := ⟨by decide +kernel, rfl, sg_inGT (List.mem_of_getElem? (i := 20) (by decide +kernel)) rfl, cw_M_hush, ⟨by decide +kernel, by decide +kernel, by decide +kernel⟩, by decide⟩
theorem cv_M_hush : sg_CV m_M_hush 2 := ⟨cy_M_hush, sg_inGT (List.mem_of_getElem? (i := 1326) (by decide +kernel)) rfl, sg_inGT (List.mem_of_getElem? (i := 1327) (by decide +kernel)) rfl⟩
def m_M_hushOf : SgY := (11, yX11_hushOf, cX11_hushOf, 7, some .int)
set_option maxRecDepth 100000 in
theorem cw_M_hushOf : Cond.code m_M_hushOf.2.1 m_M_hushOf.2.2.1 m_M_hushOf.2.2.2.1 m_M_hushOf.2.2.2.2 ∈ sg_GT := sg_inGT (List.mem_of_getElem? (i := 1332) rfl) rfl
theorem cy_M_hushOf : sg_CY m_M_hushOf 2 := ⟨by decide +kernel, rfl, sg_inGT (List.mem_of_getElem? (i := 20) (by decide +kernel)) rfl, cw_M_hushOf, ⟨by decide +kernel, by decide +kernel, by decide +kernel⟩, by decide⟩
theorem cv_M_hushOf : sg_CV m_M_hushOf 2 := ⟨cy_M_hushOf, sg_inGT (List.mem_of_getElem? (i := 1331) (by decide +kernel)) rfl, sg_inP (List.mem_of_getElem? (i := 47) (by decide +kernel)) rfl⟩
def m_M_in : SgY := (11, yX11_in, cX11_in, 6, some .boolean)
set_option maxRecDepth 100000 in
theorem cw_M_in : Cond.code m_M_in.2.1 m_M_in.2.2.1 m_M_in.2.2.2.1 m_M_in.2.2.2.2 ∈ sg_GT := sg_inGT (List.mem_of_getElem? (i := 1092) rfl) rfl
theorem cy_M_in : sg_CY m_M_in 3 := ⟨by decide +kernel, rfl, sg_inGT (List.mem_of_getElem? (i := 20) (by decide +kernel)) rfl, cw_M_in, ⟨by decide +kernel, by decide +kernel, by decide +kernel⟩, by decide⟩
theorem cs_M_in : sg_CS m_M_in 3 := ⟨cy_M_in, sg_inGT (List.mem_of_getElem? (i := 1091) (by decide +kernel)) rfl⟩
def m_M_isCaught : SgY := (11, yX11_isCaught, cX11_isCaught, 4, some .boolean)
set_option maxRecDepth 100000 in
theorem cw_M_isCaught : Cond.code m_M_isCaught.2.1 m_M_isCaught.2.2.1 m_M_isCaught.2.2.2.1 m_M_isCaught.2.2.2.2 ∈ sg_GT := sg_inGT (List.mem_of_getElem? (i := 1242) rfl) rfl
theorem cy_M_isCaught : sg_CY m_M_isCaught 1 := ⟨by decide +kernel, rfl, sg_inGT (List.mem_of_getElem? (i := 20) (by decide +kernel)) rfl, cw_M_isCaught, ⟨by decide +kernel, by decide +kernel, by decide +kernel⟩, by decide⟩
theorem cv_M_isCaught : sg_CV m_M_isCaught 1 := ⟨cy_M_isCaught, sg_inGT (List.mem_of_getElem? (i := 1241) (by decide +kernel)) rfl, sg_inP (List.mem_of_getElem? (i := 36) (by decide +kernel)) rfl⟩
def m_M_isHour : SgY := (11, yX11_isHour, cX11_isHour, 1, some .boolean)
set_option maxRecDepth 100000 in
theorem cw_M_isHour : Cond.code m_M_isHour.2.1 m_M_isHour.2.2.1 m_M_isHour.2.2.2.1 m_M_isHour.2.2.2.2 ∈ sg_GT := sg_inGT (List.mem_of_getElem? (i := 1185) rfl) rfl
theorem cy_M_isHour : sg_CY m_M_isHour 1 := ⟨by decide +kernel, rfl, sg_inGT (List.mem_of_getElem? (i := 20) (by decide +kernel)) rfl, cw_M_isHour, ⟨by decide +kernel, by decide +kernel, by decide +kernel⟩, by decide⟩
theorem cs_M_isHour : sg_CS m_M_isHour 1 := ⟨cy_M_isHour, sg_inGT (List.mem_of_getElem? (i := 1184) (by decide +kernel)) rfl⟩
def m_M_isIn : SgY := (11, yX11_isIn, cX11_isIn, 2, some .boolean)
set_option maxRecDepth 100000 in
theorem cw_M_isIn : Cond.code m_M_isIn.2.1 m_M_isIn.2.2.1 m_M_isIn.2.2.2.1 m_M_isIn.2.2.2.2 ∈ sg_GT := sg_inGT (List.mem_of_getElem? (i := 1231) rfl) rfl
theorem cy_M_isIn : sg_CY m_M_isIn 2 := ⟨by decide +kernel, rfl, sg_inGT (List.mem_of_getElem? (i := 20) (by decide +kernel)) rfl, cw_M_isIn, ⟨by decide +kernel, by decide +kernel, by decide +kernel⟩, by decide⟩
theorem cs_M_isIn : sg_CS m_M_isIn 2 := ⟨cy_M_isIn, sg_inGT (List.mem_of_getElem? (i := 1230) (by decide +kernel)) rfl⟩
def m_M_isPerson : SgY := (11, yX11_isPerson, cX11_isPerson, 2, some .boolean)
set_option maxRecDepth 100000 in
theorem cw_M_isPerson : Cond.code m_M_isPerson.2.1 m_M_isPerson.2.2.1 m_M_isPerson.2.2.2.1 m_M_isPerson.2.2.2.2 ∈ sg_GT := sg_inGT (List.mem_of_getElem? (i := 1178) rfl) rfl
theorem cy_M_isPerson : sg_CY m_M_isPerson 1 := ⟨by decide +kernel, rfl, sg_inGT (List.mem_of_getElem? (i := 20) (by decide +kernel)) rfl, cw_M_isPerson, ⟨by decide +kernel, by decide +kernel, by decide +kernel⟩, by decide⟩
theorem cv_M_isPerson : sg_CV m_M_isPerson 1 := ⟨cy_M_isPerson, sg_inGT (List.mem_of_getElem? (i := 1177) (by decide +kernel)) rfl, sg_inP (List.mem_of_getElem? (i := 27) (by decide +kernel)) rfl⟩
def m_M_isPost : SgY := (11, yX11_isPost, cX11_isPost, 2, some .boolean)
set_option maxRecDepth 100000 in
theorem cw_M_isPost : Cond.code m_M_isPost.2.1 m_M_isPost.2.2.1 m_M_isPost.2.2.2.1 m_M_isPost.2.2.2.2 ∈ sg_GT := sg_inGT (List.mem_of_getElem? (i := 1170) rfl) rfl
theorem cy_M_isPost : sg_CY m_M_isPost 1 := ⟨by decide +kernel, rfl, sg_inGT (List.mem_of_getElem? (i := 20) (by decide +kernel)) rfl, cw_M_isPost, ⟨by decide +kernel, by decide +kernel, by decide +kernel⟩, by decide⟩
theorem cv_M_isPost : sg_CV m_M_isPost 1 := ⟨cy_M_isPost, sg_inGT (List.mem_of_getElem? (i := 1169) (by decide +kernel)) rfl, sg_inP (List.mem_of_getElem? (i := 26) (by decide +kernel)) rfl⟩
def m_M_isSeen : SgY := (11, yX11_isSeen, cX11_isSeen, 4, some .boolean)
set_option maxRecDepth 100000 in
theorem cw_M_isSeen : Cond.code m_M_isSeen.2.1 m_M_isSeen.2.2.1 m_M_isSeen.2.2.2.1 m_M_isSeen.2.2.2.2 ∈ sg_GT := sg_inGT (List.mem_of_getElem? (i := 1366) rfl) rfl
theorem cy_M_isSeen : sg_CY m_M_isSeen 0 := ⟨by decide +kernel, rfl, sg_inGT (List.mem_of_getElem? (i := 20) (by decide +kernel)) rfl, cw_M_isSeen, ⟨by decide +kernel, by decide +kernel, by decide +kernel⟩, by decide⟩
theorem cv_M_isSeen : sg_CV m_M_isSeen 0 := ⟨cy_M_isSeen, sg_inGT (List.mem_of_getElem? (i := 1365) (by decide +kernel)) rfl, sg_inP (List.mem_of_getElem? (i := 51) (by decide +kernel)) rfl⟩
def m_M_isSheet : SgY := (11, yX11_isSheet, cX11_isSheet, 1, some .boolean)
set_option maxRecDepth 100000 in
theorem cw_M_isSheet : Cond.code m_M_isSheet.2.1 m_M_isSheet.2.2.1 m_M_isSheet.2.2.2.1 m_M_isSheet.2.2.2.2 ∈ sg_GT := sg_inGT (List.mem_of_getElem? (i := 1088) rfl) rfl
theorem cy_M_isSheet : sg_CY m_M_isSheet 1 := ⟨by decide +kernel, rfl, sg_inGT (List.mem_of_getElem? (i := 20) (by decide +kernel)) rfl, cw_M_isSheet, ⟨by decide +kernel, by decide +kernel, by decide +kernel⟩, by decide⟩
theorem cs_M_isSheet : sg_CS m_M_isSheet 1 := ⟨cy_M_isSheet, sg_inGT (List.mem_of_getElem? (i := 1087) (by decide +kernel)) rfl⟩
def m_M_isSneezing : SgY := (11, yX11_isSneezing, cX11_isSneezing, 4, some .boolean)
set_option maxRecDepth 100000 in
theorem cw_M_isSneezing : Cond.code m_M_isSneezing.2.1 m_M_isSneezing.2.2.1 m_M_isSneezing.2.2.2.1 m_M_isSneezing.2.2.2.2 ∈ sg_GT := sg_inGT (List.mem_of_getElem? (i := 1224) rfl) rfl
theorem cy_M_isSneezing : sg_CY m_M_isSneezing 2 := ⟨by decide +kernel, rfl, sg_inGT (List.mem_of_getElem? (i := 20) (by decide +kernel)) rfl, cw_M_isSneezing, ⟨by decide +kernel, by decide +kernel, by decide +kernel⟩, by decide⟩
theorem cv_M_isSneezing : sg_CV m_M_isSneezing 2 := ⟨cy_M_isSneezing, sg_inGT (List.mem_of_getElem? (i := 1223) (by decide +kernel)) rfl, sg_inP (List.mem_of_getElem? (i := 33) (by decide +kernel)) rfl⟩
def m_M_isSpared : SgY := (11, yX11_isSpared, cX11_isSpared, 2, some .boolean)
set_option maxRecDepth 100000 in
theorem cw_M_isSpared : Cond.code m_M_isSpared.2.1 m_M_isSpared.2.2.1 m_M_isSpared.2.2.2.1 m_M_isSpared.2.2.2.2 ∈ sg_GT := sg_inGT (List.mem_of_getElem? (i := 1345) rfl) rfl
theorem cy_M_isSpared : sg_CY m_M_isSpared 1 := ⟨by decide +kernel, rfl, sg_inGT (List.mem_of_getElem? (i := 20) (by decide +kernel)) rfl, cw_M_isSpared, ⟨by decide +kernel, by decide +kernel, by decide +kernel⟩, by decide⟩
theorem cv_M_isSpared : sg_CV m_M_isSpared 1 := ⟨cy_M_isSpared, sg_inGT (List.mem_of_getElem? (i := 1344) (by decide +kernel)) rfl, sg_inP (List.mem_of_getElem? (i := 49) (by decide +kernel)) rfl⟩
def m_M_isTold : SgY := (11, yX11_isTold, cX11_isTold, 7, some .boolean)
set_option maxRecDepth 100000 in
theorem cw_M_isTold : Cond.code m_M_isTold.2.1 m_M_isTold.2.2.1 m_M_isTold.2.2.2.1 m_M_isTold.2.2.2.2 ∈ sg_GT := sg_inGT (List.mem_of_getElem? (i := 1228) rfl) rfl
theorem cy_M_isTold : sg_CY m_M_isTold 3 := ⟨by decide +kernel, rfl, sg_inGT (List.mem_of_getElem? (i := 20) (by decide +kernel)) rfl, cw_M_isTold, ⟨by decide +kernel, by decide +kernel, by decide +kernel⟩, by decide⟩
theorem cv_M_isTold : sg_CV m_M_isTold 3 := ⟨cy_M_isTold, sg_inGT (List.mem_of_getElem? (i := 1227) (by decide +kernel)) rfl, sg_inP (List.mem_of_getElem? (i := 34) (by decide +kernel)) rfl⟩
def m_M_isTwo : SgY := (11, yX11_isTwo, cX11_isTwo, 1, some .boolean)
set_option maxRecDepth 100000 in
theorem cw_M_isTwo : Cond.code m_M_isTwo.2.1 m_M_isTwo.2.2.1 m_M_isTwo.2.2.2.1 m_M_isTwo.2.2.2.2 ∈ sg_GT := sg_inGT (List.mem_of_getElem? (i := 1128) rfl) rfl
theorem cy_M_isTwo : sg_CY m_M_isTwo 1 := ⟨by decide +kernel, rfl, sg_inGT (List.mem_of_getElem? (i := 20) (by decide +kernel)) rfl, cw_M_isTwo, ⟨by decide +kernel, by decide +kernel, by decide +kernel⟩, by decide⟩
theorem cs_M_isTwo : sg_CS m_M_isTwo 1 := ⟨cy_M_isTwo, sg_inGT (List.mem_of_getElem? (i := 1127) (by decide +kernel)) rfl⟩
def m_M_keeps : SgY := (11, yX11_keeps, cX11_keeps, 4, none)
set_option maxRecDepth 100000 in
theorem cw_M_keeps : Cond.code m_M_keeps.2.1 m_M_keeps.2.2.1 m_M_keeps.2.2.2.1 m_M_keeps.2.2.2.2 ∈ sg_GT := sg_inGT (List.mem_of_getElem? (i := 1191) rfl) rfl
theorem cy_M_keeps : sg_CY m_M_keeps 3 := ⟨by decide +kernel, rfl, sg_inGT (List.mem_of_getElem? (i := 20) (by decide +kernel)) rfl, cw_M_keeps, ⟨by decide +kernel, by decide +kernel, by decide +kernel⟩, by decide⟩
theorem cv_M_keeps : sg_CV m_M_keeps 3 := ⟨cy_M_keeps, sg_inGT (List.mem_of_getElem? (i := 1190) (by decide +kernel)) rfl, sg_inP (List.mem_of_getElem? (i := 28) (by decide +kernel)) rfl⟩
def m_M_lacks : SgY := (11, yX11_lacks, cX11_lacks, 4, some .int)
set_option maxRecDepth 100000 in
theorem cw_M_lacks : Cond.code m_M_lacks.2.1 m_M_lacks.2.2.1 m_M_lacks.2.2.2.1 m_M_lacks.2.2.2.2 ∈ sg_GT := sg_inGT (List.mem_of_getElem? (i := 1109) rfl) rfl
theorem cy_M_lacks : sg_CY m_M_lacks 3 := ⟨by decide +kernel, rfl, sg_inGT (List.mem_of_getElem? (i := 20) (by decide +kernel)) rfl, cw_M_lacks, ⟨by decide +kernel, by decide +kernel, by decide +kernel⟩, by decide⟩
theorem cv_M_lacks : sg_CV m_M_lacks 3 := ⟨cy_M_lacks, sg_inGT (List.mem_of_getElem? (i := 1108) (by decide +kernel)) rfl, sg_inP (List.mem_of_getElem? (i := 22) (by decide +kernel)) rfl⟩
def m_M_lay : SgY := (11, yX11_lay, cX11_lay, 6, some .int)
set_option maxRecDepth 100000 in
theorem cw_M_lay : Cond.code m_M_lay.2.1 m_M_lay.2.2.1 m_M_lay.2.2.2.1 m_M_lay.2.2.2.2 ∈ sg_GT := sg_inGT (List.mem_of_getElem? (i := 1105) rfl) rfl
theorem cy_M_lay : sg_CY m_M_lay 4 := ⟨by decide +kernel, rfl, sg_inGT (List.mem_of_getElem? (i := 20) (by decide +kernel)) rfl, cw_M_lay, ⟨by decide +kernel, by decide +kernel, by decide +kernel⟩, by decide⟩
theorem cv_M_lay : sg_CV m_M_lay 4 := ⟨cy_M_lay, sg_inGT (List.mem_of_getElem? (i := 1103) (by decide +kernel)) rfl, sg_inGT (List.mem_of_getElem? (i := 1104) (by decide +kernel)) rfl⟩
def m_M_lesser : SgY := (11, yX11_lesser, cX11_lesser, 2, some .int)
set_option maxRecDepth 100000 in
theorem cw_M_lesser : Cond.code m_M_lesser.2.1 m_M_lesser.2.2.1 m_M_lesser.2.2.2.1 m_M_lesser.2.2.2.2 ∈ sg_GT := sg_inGT (List.mem_of_getElem? (i := 1316) rfl) rfl
theorem cy_M_lesser : sg_CY m_M_lesser 2 := ⟨by decide +kernel, rfl, sg_inGT (List.mem_of_getElem? (i := 20) (by decide +kernel)) rfl, cw_M_lesser, ⟨by decide +kernel, by decide +kernel, by decide +kernel⟩, by decide⟩
theorem cs_M_lesser : sg_CS m_M_lesser 2 := ⟨cy_M_lesser, sg_inGT (List.mem_of_getElem? (i := 1315) (by decide +kernel)) rfl⟩
def m_M_lives : SgY := (11, yX11_lives, cX11_lives, 2, none)
set_option maxRecDepth 100000 in
theorem cw_M_lives : Cond.code m_M_lives.2.1 m_M_lives.2.2.1 m_M_lives.2.2.2.1 m_M_lives.2.2.2.2 ∈ sg_GT := sg_inGT (List.mem_of_getElem? (i := 1212) rfl) rfl
theorem cy_M_lives : sg_CY m_M_lives 0 := ⟨by decide +kernel, rfl, sg_inGT (List.mem_of_getElem? (i := 20) (by decide +kernel)) rfl, cw_M_lives, ⟨by decide +kernel, by decide +kernel, by decide +kernel⟩, by decide⟩
theorem cv_M_lives : sg_CV m_M_lives 0 := ⟨cy_M_lives, sg_inGT (List.mem_of_getElem? (i := 1211) (by decide +kernel)) rfl, sg_inP (List.mem_of_getElem? (i := 30) (by decide +kernel)) rfl⟩
def m_M_longest : SgY := (11, yX11_longest, cX11_longest, 2, some .int)
set_option maxRecDepth 100000 in
theorem cw_M_longest : Cond.code m_M_longest.2.1 m_M_longest.2.2.1 m_M_longest.2.2.2.1 m_M_longest.2.2.2.2 ∈ sg_GT := sg_inGT (List.mem_of_getElem? (i := 1274) rfl) rfl
theorem cy_M_longest : sg_CY m_M_longest 1 := ⟨by decide +kernel, rfl, sg_inGT (List.mem_of_getElem? (i := 20) (by decide +kernel)) rfl, cw_M_longest, ⟨by decide +kernel, by decide +kernel, by decide +kernel⟩, by decide⟩
theorem cv_M_longest : sg_CV m_M_longest 1 := ⟨cy_M_longest, sg_inGT (List.mem_of_getElem? (i := 1272) (by decide +kernel)) rfl, sg_inGT (List.mem_of_getElem? (i := 1273) (by decide +kernel)) rfl⟩
def m_M_longestBy : SgY := (11, yX11_longestBy, cX11_longestBy, 7, some .int)
set_option maxRecDepth 100000 in
theorem cw_M_longestBy : Cond.code m_M_longestBy.2.1 m_M_longestBy.2.2.1 m_M_longestBy.2.2.2.1 m_M_longestBy.2.2.2.2 ∈ sg_GT := sg_inGT (List.mem_of_getElem? (i := 1278) rfl) rfl
theorem cy_M_longestBy : sg_CY m_M_longestBy 1 := ⟨by decide +kernel, rfl, sg_inGT (List.mem_of_getElem? (i := 20) (by decide +kernel)) rfl, cw_M_longestBy, ⟨by decide +kernel, by decide +kernel, by decide +kernel⟩, by decide⟩
theorem cv_M_longestBy : sg_CV m_M_longestBy 1 := ⟨cy_M_longestBy, sg_inGT (List.mem_of_getElem? (i := 1277) (by decide +kernel)) rfl, sg_inP (List.mem_of_getElem? (i := 41) (by decide +kernel)) rfl⟩
def m_M_lose : SgY := (11, yX11_lose, cX11_lose, 2, some .int)
set_option maxRecDepth 100000 in
theorem cw_M_lose : Cond.code m_M_lose.2.1 m_M_lose.2.2.1 m_M_lose.2.2.2.1 m_M_lose.2.2.2.2 ∈ sg_GT := sg_inGT (List.mem_of_getElem? (i := 1101) rfl) rfl
theorem cy_M_lose : sg_CY m_M_lose 1 := ⟨by decide +kernel, rfl, sg_inGT (List.mem_of_getElem? (i := 20) (by decide +kernel)) rfl, cw_M_lose, ⟨by decide +kernel, by decide +kernel, by decide +kernel⟩, by decide⟩
theorem cv_M_lose : sg_CV m_M_lose 1 := ⟨cy_M_lose, sg_inGT (List.mem_of_getElem? (i := 1099) (by decide +kernel)) rfl, sg_inGT (List.mem_of_getElem? (i := 1100) (by decide +kernel)) rfl⟩
def m_M_lot : SgY := (11, yX11_lot, cX11_lot, 2, some .int)
set_option maxRecDepth 100000 in
theorem cw_M_lot : Cond.code m_M_lot.2.1 m_M_lot.2.2.1 m_M_lot.2.2.2.1 m_M_lot.2.2.2.2 ∈ sg_GT := sg_inGT (List.mem_of_getElem? (i := 1423) rfl) rfl
theorem cy_M_lot : sg_CY m_M_lot 1 := ⟨by decide +kernel, rfl, sg_inGT (List.mem_of_getElem? (i := 20) (by decide +kernel)) rfl, cw_M_lot, ⟨by decide +kernel, by decide +kernel, by decide +kernel⟩, by decide⟩
theorem cv_M_lot : sg_CV m_M_lot 1 := ⟨cy_M_lot, sg_inGT (List.mem_of_getElem? (i := 1422) (by decide +kernel)) rfl, sg_inP (List.mem_of_getElem? (i := 59) (by decide +kernel)) rfl⟩
def m_M_never : SgY := (11, yX11_never, cX11_never, 1, some .int)
set_option maxRecDepth 100000 in
theorem cw_M_never : Cond.code m_M_never.2.1 m_M_never.2.2.1 m_M_never.2.2.2.1 m_M_never.2.2.2.2 ∈ sg_GT := sg_inGT (List.mem_of_getElem? (i := 1358) rfl) rfl
theorem cy_M_never : sg_CY m_M_never 0 := ⟨by decide +kernel, rfl, sg_inGT (List.mem_of_getElem? (i := 20) (by decide +kernel)) rfl, cw_M_never, ⟨by decide +kernel, by decide +kernel, by decide +kernel⟩, by decide⟩
theorem cv_M_never : sg_CV m_M_never 0 := ⟨cy_M_never, sg_inGT (List.mem_of_getElem? (i := 1356) (by decide +kernel)) rfl, sg_inGT (List.mem_of_getElem? (i := 1357) (by decide +kernel)) rfl⟩
def m_M_neverNow : SgY := (11, yX11_neverNow, cX11_neverNow, 3, some .int)
set_option maxRecDepth 100000 in
theorem cw_M_neverNow : Cond.code m_M_neverNow.2.1 m_M_neverNow.2.2.1 m_M_neverNow.2.2.2.1 m_M_neverNow.2.2.2.2 ∈ sg_GT := sg_inGT (List.mem_of_getElem? (i := 1362) rfl) rfl
theorem cy_M_neverNow : sg_CY m_M_neverNow 0 := ⟨by decide +kernel, rfl, sg_inGT (List.mem_of_getElem? (i := 20) (by decide +kernel)) rfl, cw_M_neverNow, ⟨by decide +kernel, by decide +kernel, by decide +kernel⟩, by decide⟩
theorem cv_M_neverNow : sg_CV m_M_neverNow 0 := ⟨cy_M_neverNow, sg_inGT (List.mem_of_getElem? (i := 1361) (by decide +kernel)) rfl, sg_inP (List.mem_of_getElem? (i := 50) (by decide +kernel)) rfl⟩
def m_M_no : SgY := (11, yX11_no, cX11_no, 1, some .long)
set_option maxRecDepth 100000 in
theorem cw_M_no : Cond.code m_M_no.2.1 m_M_no.2.2.1 m_M_no.2.2.2.1 m_M_no.2.2.2.2 ∈ sg_GT := sg_inGT (List.mem_of_getElem? (i := 1409) rfl) rfl
theorem cy_M_no : sg_CY m_M_no 1 := ⟨by decide +kernel, rfl, sg_inGT (List.mem_of_getElem? (i := 20) (by decide +kernel)) rfl, cw_M_no, ⟨by decide +kernel, by decide +kernel, by decide +kernel⟩, by decide⟩
theorem cs_M_no : sg_CS m_M_no 1 := ⟨cy_M_no, sg_inGT (List.mem_of_getElem? (i := 1408) (by decide +kernel)) rfl⟩
def m_M_ones : SgY := (11, yX11_ones, cX11_ones, 3, some .int)
set_option maxRecDepth 100000 in
theorem cw_M_ones : Cond.code m_M_ones.2.1 m_M_ones.2.2.1 m_M_ones.2.2.2.1 m_M_ones.2.2.2.2 ∈ sg_GT := sg_inGT (List.mem_of_getElem? (i := 1427) rfl) rfl
theorem cy_M_ones : sg_CY m_M_ones 1 := ⟨by decide +kernel, rfl, sg_inGT (List.mem_of_getElem? (i := 20) (by decide +kernel)) rfl, cw_M_ones, ⟨by decide +kernel, by decide +kernel, by decide +kernel⟩, by decide⟩
theorem cs_M_ones : sg_CS m_M_ones 1 := ⟨cy_M_ones, sg_inGT (List.mem_of_getElem? (i := 1426) (by decide +kernel)) rfl⟩
def m_M_part : SgY := (11, yX11_part, cX11_part, 11, some .long)
set_option maxRecDepth 100000 in
theorem cw_M_part : Cond.code m_M_part.2.1 m_M_part.2.2.1 m_M_part.2.2.2.1 m_M_part.2.2.2.2 ∈ sg_GT := sg_inGT (List.mem_of_getElem? (i := 1406) rfl) rfl
theorem cy_M_part : sg_CY m_M_part 3 := ⟨by decide +kernel, rfl, sg_inGT (List.mem_of_getElem? (i := 20) (by decide +kernel)) rfl, cw_M_part, ⟨by decide +kernel, by decide +kernel, by decide +kernel⟩, by decide⟩
theorem cs_M_part : sg_CS m_M_part 3 := ⟨cy_M_part, sg_inGT (List.mem_of_getElem? (i := 1405) (by decide +kernel)) rfl⟩
def m_M_passes : SgY := (11, yX11_passes, cX11_passes, 4, none)
set_option maxRecDepth 100000 in
theorem cw_M_passes : Cond.code m_M_passes.2.1 m_M_passes.2.2.1 m_M_passes.2.2.2.1 m_M_passes.2.2.2.2 ∈ sg_GT := sg_inGT (List.mem_of_getElem? (i := 1216) rfl) rfl
theorem cy_M_passes : sg_CY m_M_passes 1 := ⟨by decide +kernel, rfl, sg_inGT (List.mem_of_getElem? (i := 20) (by decide +kernel)) rfl, cw_M_passes, ⟨by decide +kernel, by decide +kernel, by decide +kernel⟩, by decide⟩
theorem cv_M_passes : sg_CV m_M_passes 1 := ⟨cy_M_passes, sg_inGT (List.mem_of_getElem? (i := 1215) (by decide +kernel)) rfl, sg_inP (List.mem_of_getElem? (i := 31) (by decide +kernel)) rfl⟩
def m_M_person : SgY := (11, yX11_person, cX11_person, 3, some .int)
set_option maxRecDepth 100000 in
theorem cw_M_person : Cond.code m_M_person.2.1 m_M_person.2.2.1 m_M_person.2.2.2.1 m_M_person.2.2.2.2 ∈ sg_GT := sg_inGT (List.mem_of_getElem? (i := 1174) rfl) rfl
theorem cy_M_person : sg_CY m_M_person 2 := ⟨by decide +kernel, rfl, sg_inGT (List.mem_of_getElem? (i := 20) (by decide +kernel)) rfl, cw_M_person, ⟨by decide +kernel, by decide +kernel, by decide +kernel⟩, by decide⟩
theorem cv_M_person : sg_CV m_M_person 2 := ⟨cy_M_person, sg_inGT (List.mem_of_getElem? (i := 1172) (by decide +kernel)) rfl, sg_inGT (List.mem_of_getElem? (i := 1173) (by decide +kernel)) rfl⟩
def m_M_personOf : SgY := (11, yX11_personOf, cX11_personOf, 2, some .int)
set_option maxRecDepth 100000 in
theorem cw_M_personOf : Cond.code m_M_personOf.2.1 m_M_personOf.2.2.1 m_M_personOf.2.2.2.1 m_M_personOf.2.2.2.2 ∈ sg_GT := sg_inGT (List.mem_of_getElem? (i := 1162) rfl) rfl
theorem cy_M_personOf : sg_CY m_M_personOf 2 := ⟨by decide +kernel, rfl, sg_inGT (List.mem_of_getElem? (i := 20) (by decide +kernel)) rfl, cw_M_personOf, ⟨by decide +kernel, by decide +kernel, by decide +kernel⟩, by decide⟩
theorem cs_M_personOf : sg_CS m_M_personOf 2 := ⟨cy_M_personOf, sg_inGT (List.mem_of_getElem? (i := 1161) (by decide +kernel)) rfl⟩
def m_M_post : SgY := (11, yX11_post, cX11_post, 3, some .int)
set_option maxRecDepth 100000 in
theorem cw_M_post : Cond.code m_M_post.2.1 m_M_post.2.2.1 m_M_post.2.2.2.1 m_M_post.2.2.2.2 ∈ sg_GT := sg_inGT (List.mem_of_getElem? (i := 1166) rfl) rfl
theorem cy_M_post : sg_CY m_M_post 2 := ⟨by decide +kernel, rfl, sg_inGT (List.mem_of_getElem? (i := 20) (by decide +kernel)) rfl, cw_M_post, ⟨by decide +kernel, by decide +kernel, by decide +kernel⟩, by decide⟩
theorem cv_M_post : sg_CV m_M_post 2 := ⟨cy_M_post, sg_inGT (List.mem_of_getElem? (i := 1164) (by decide +kernel)) rfl, sg_inGT (List.mem_of_getElem? (i := 1165) (by decide +kernel)) rfl⟩
def m_M_postOf : SgY := (11, yX11_postOf, cX11_postOf, 2, some .int)
set_option maxRecDepth 100000 in
theorem cw_M_postOf : Cond.code m_M_postOf.2.1 m_M_postOf.2.2.1 m_M_postOf.2.2.2.1 m_M_postOf.2.2.2.2 ∈ sg_GT := sg_inGT (List.mem_of_getElem? (i := 1152) rfl) rfl
theorem cy_M_postOf : sg_CY m_M_postOf 2 := ⟨by decide +kernel, rfl, sg_inGT (List.mem_of_getElem? (i := 20) (by decide +kernel)) rfl, cw_M_postOf, ⟨by decide +kernel, by decide +kernel, by decide +kernel⟩, by decide⟩
theorem cs_M_postOf : sg_CS m_M_postOf 2 := ⟨cy_M_postOf, sg_inGT (List.mem_of_getElem? (i := 1151) (by decide +kernel)) rfl⟩
def m_M_quiet : SgY := (11, yX11_quiet, cX11_quiet, 1, some .int)
set_option maxRecDepth 100000 in
theorem cw_M_quiet : Cond.code m_M_quiet.2.1 m_M_quiet.2.2.1 m_M_quiet.2.2.2.1 m_M_quiet.2.2.2.2 ∈ sg_GT := sg_inGT (List.mem_of_getElem? (i := 1301) rfl) rfl
theorem cy_M_quiet : sg_CY m_M_quiet 0 := ⟨by decide +kernel, rfl, sg_inGT (List.mem_of_getElem? (i := 20) (by decide +kernel)) rfl, cw_M_quiet, ⟨by decide +kernel, by decide +kernel, by decide +kernel⟩, by decide⟩
theorem cv_M_quiet : sg_CV m_M_quiet 0 := ⟨cy_M_quiet, sg_inGT (List.mem_of_getElem? (i := 1299) (by decide +kernel)) rfl, sg_inGT (List.mem_of_getElem? (i := 1300) (by decide +kernel)) rfl⟩
def m_M_quietNow : SgY := (11, yX11_quietNow, cX11_quietNow, 3, some .int)
set_option maxRecDepth 100000 in
theorem cw_M_quietNow : Cond.code m_M_quietNow.2.1 m_M_quietNow.2.2.1 m_M_quietNow.2.2.2.1 m_M_quietNow.2.2.2.2 ∈ sg_GT := sg_inGT (List.mem_of_getElem? (i := 1305) rfl) rfl
theorem cy_M_quietNow : sg_CY m_M_quietNow 0 := ⟨by decide +kernel, rfl, sg_inGT (List.mem_of_getElem? (i := 20) (by decide +kernel)) rfl, cw_M_quietNow, ⟨by decide +kernel, by decide +kernel, by decide +kernel⟩, by decide⟩
theorem cv_M_quietNow : sg_CV m_M_quietNow 0 := ⟨cy_M_quietNow, sg_inGT (List.mem_of_getElem? (i := 1304) (by decide +kernel)) rfl, sg_inP (List.mem_of_getElem? (i := 44) (by decide +kernel)) rfl⟩
def m_M_read : SgY := (11, yX11_read, cX11_read, 5, some .int)
set_option maxRecDepth 100000 in
theorem cw_M_read : Cond.code m_M_read.2.1 m_M_read.2.2.1 m_M_read.2.2.2.1 m_M_read.2.2.2.2 ∈ sg_GT := sg_inGT (List.mem_of_getElem? (i := 1199) rfl) rfl
theorem cy_M_read : sg_CY m_M_read 1 := ⟨by decide +kernel, rfl, sg_inGT (List.mem_of_getElem? (i := 20) (by decide +kernel)) rfl, cw_M_read, ⟨by decide +kernel, by decide +kernel, by decide +kernel⟩, by decide⟩
theorem cv_M_read : sg_CV m_M_read 1 := ⟨cy_M_read, sg_inGT (List.mem_of_getElem? (i := 1197) (by decide +kernel)) rfl, sg_inGT (List.mem_of_getElem? (i := 1198) (by decide +kernel)) rfl⟩
def m_M_readsPeople : SgY := (11, yX11_readsPeople, cX11_readsPeople, 5, some .int)
set_option maxRecDepth 100000 in
theorem cw_M_readsPeople : Cond.code m_M_readsPeople.2.1 m_M_readsPeople.2.2.1 m_M_readsPeople.2.2.2.1 m_M_readsPeople.2.2.2.2 ∈ sg_GT := sg_inGT (List.mem_of_getElem? (i := 1159) rfl) rfl
theorem cy_M_readsPeople : sg_CY m_M_readsPeople 0 := ⟨by decide +kernel, rfl, sg_inGT (List.mem_of_getElem? (i := 20) (by decide +kernel)) rfl, cw_M_readsPeople, ⟨by decide +kernel, by decide +kernel, by decide +kernel⟩, by decide⟩
theorem cv_M_readsPeople : sg_CV m_M_readsPeople 0 := ⟨cy_M_readsPeople, sg_inGT (List.mem_of_getElem? (i := 1158) (by decide +kernel)) rfl, sg_inP (List.mem_of_getElem? (i := 25) (by decide +kernel)) rfl⟩
def m_M_readsPosts : SgY := (11, yX11_readsPosts, cX11_readsPosts, 5, some .int)
set_option maxRecDepth 100000 in
theorem cw_M_readsPosts : Cond.code m_M_readsPosts.2.1 m_M_readsPosts.2.2.1 m_M_readsPosts.2.2.2.1 m_M_readsPosts.2.2.2.2 ∈ sg_GT := sg_inGT (List.mem_of_getElem? (i := 1149) rfl) rfl
theorem cy_M_readsPosts : sg_CY m_M_readsPosts 0 := ⟨by decide +kernel, rfl, sg_inGT (List.mem_of_getElem? (i := 20) (by decide +kernel)) rfl, cw_M_readsPosts, ⟨by decide +kernel, by decide +kernel, by decide +kernel⟩, by decide⟩
theorem cv_M_readsPosts : sg_CV m_M_readsPosts 0 := ⟨cy_M_readsPosts, sg_inGT (List.mem_of_getElem? (i := 1148) (by decide +kernel)) rfl, sg_inP (List.mem_of_getElem? (i := 24) (by decide +kernel)) rfl⟩
def m_M_readsText : SgY := (11, yX11_readsText, cX11_readsText, 2, some .int)
set_option maxRecDepth 100000 in
theorem cw_M_readsText : Cond.code m_M_readsText.2.1 m_M_readsText.2.2.1 m_M_readsText.2.2.2.1 m_M_readsText.2.2.2.2 ∈ sg_GT := sg_inGT (List.mem_of_getElem? (i := 1145) rfl) rfl
theorem cy_M_readsText : sg_CY m_M_readsText 1 := ⟨by decide +kernel, rfl, sg_inGT (List.mem_of_getElem? (i := 20) (by decide +kernel)) rfl, cw_M_readsText, ⟨by decide +kernel, by decide +kernel, by decide +kernel⟩, by decide⟩
theorem cv_M_readsText : sg_CV m_M_readsText 1 := ⟨cy_M_readsText, sg_inGT (List.mem_of_getElem? (i := 1144) (by decide +kernel)) rfl, sg_inP (List.mem_of_getElem? (i := 23) (by decide +kernel)) rfl⟩
def m_M_seen : SgY := (11, yX11_seen, cX11_seen, 4, some .int)
set_option maxRecDepth 100000 in
theorem cw_M_seen : Cond.code m_M_seen.2.1 m_M_seen.2.2.1 m_M_seen.2.2.2.1 m_M_seen.2.2.2.2 ∈ sg_GT := sg_inGT (List.mem_of_getElem? (i := 1349) rfl) rfl
theorem cy_M_seen : sg_CY m_M_seen 3 := ⟨by decide +kernel, rfl, sg_inGT (List.mem_of_getElem? (i := 20) (by decide +kernel)) rfl, cw_M_seen, ⟨by decide +kernel, by decide +kernel, by decide +kernel⟩, by decide⟩
theorem cv_M_seen : sg_CV m_M_seen 3 := ⟨cy_M_seen, sg_inGT (List.mem_of_getElem? (i := 1347) (by decide +kernel)) rfl, sg_inGT (List.mem_of_getElem? (i := 1348) (by decide +kernel)) rfl⟩
def m_M_sheet : SgY := (11, yX11_sheet, cX11_sheet, 5, some .int)
set_option maxRecDepth 100000 in
theorem cw_M_sheet : Cond.code m_M_sheet.2.1 m_M_sheet.2.2.1 m_M_sheet.2.2.2.1 m_M_sheet.2.2.2.2 ∈ sg_GT := sg_inGT (List.mem_of_getElem? (i := 1085) rfl) rfl
theorem cy_M_sheet : sg_CY m_M_sheet 3 := ⟨by decide +kernel, rfl, sg_inGT (List.mem_of_getElem? (i := 20) (by decide +kernel)) rfl, cw_M_sheet, ⟨by decide +kernel, by decide +kernel, by decide +kernel⟩, by decide⟩
theorem cv_M_sheet : sg_CV m_M_sheet 3 := ⟨cy_M_sheet, sg_inGT (List.mem_of_getElem? (i := 1083) (by decide +kernel)) rfl, sg_inGT (List.mem_of_getElem? (i := 1084) (by decide +kernel)) rfl⟩
def m_M_sortOf : SgY := (11, yX11_sortOf, cX11_sortOf, 5, some .int)
set_option maxRecDepth 100000 in
theorem cw_M_sortOf : Cond.code m_M_sortOf.2.1 m_M_sortOf.2.2.1 m_M_sortOf.2.2.2.1 m_M_sortOf.2.2.2.2 ∈ sg_GT := sg_inGT (List.mem_of_getElem? (i := 1378) rfl) rfl
theorem cy_M_sortOf : sg_CY m_M_sortOf 1 := ⟨by decide +kernel, rfl, sg_inGT (List.mem_of_getElem? (i := 20) (by decide +kernel)) rfl, cw_M_sortOf, ⟨by decide +kernel, by decide +kernel, by decide +kernel⟩, by decide⟩
theorem cv_M_sortOf : sg_CV m_M_sortOf 1 := ⟨cy_M_sortOf, sg_inGT (List.mem_of_getElem? (i := 1377) (by decide +kernel)) rfl, sg_inP (List.mem_of_getElem? (i := 53) (by decide +kernel)) rfl⟩
def m_M_spare : SgY := (11, yX11_spare, cX11_spare, 2, some .int)
set_option maxRecDepth 100000 in
theorem cw_M_spare : Cond.code m_M_spare.2.1 m_M_spare.2.2.1 m_M_spare.2.2.2.1 m_M_spare.2.2.2.2 ∈ sg_GT := sg_inGT (List.mem_of_getElem? (i := 1336) rfl) rfl
theorem cy_M_spare : sg_CY m_M_spare 1 := ⟨by decide +kernel, rfl, sg_inGT (List.mem_of_getElem? (i := 20) (by decide +kernel)) rfl, cw_M_spare, ⟨by decide +kernel, by decide +kernel, by decide +kernel⟩, by decide⟩
theorem cv_M_spare : sg_CV m_M_spare 1 := ⟨cy_M_spare, sg_inGT (List.mem_of_getElem? (i := 1334) (by decide +kernel)) rfl, sg_inGT (List.mem_of_getElem? (i := 1335) (by decide +kernel)) rfl⟩
def m_M_spareBy : SgY := (11, yX11_spareBy, cX11_spareBy, 4, some .int)
set_option maxRecDepth 100000 in
theorem cw_M_spareBy : Cond.code m_M_spareBy.2.1 m_M_spareBy.2.2.1 m_M_spareBy.2.2.2.1 m_M_spareBy.2.2.2.2 ∈ sg_GT := sg_inGT (List.mem_of_getElem? (i := 1341) rfl) rfl
theorem cy_M_spareBy : sg_CY m_M_spareBy 1 := ⟨by decide +kernel, rfl, sg_inGT (List.mem_of_getElem? (i := 20) (by decide +kernel)) rfl, cw_M_spareBy, ⟨by decide +kernel, by decide +kernel, by decide +kernel⟩, by decide⟩
theorem cv_M_spareBy : sg_CV m_M_spareBy 1 := ⟨cy_M_spareBy, sg_inGT (List.mem_of_getElem? (i := 1340) (by decide +kernel)) rfl, sg_inP (List.mem_of_getElem? (i := 48) (by decide +kernel)) rfl⟩
def m_M_stood : SgY := (11, yX11_stood, cX11_stood, 4, some .int)
set_option maxRecDepth 100000 in
theorem cw_M_stood : Cond.code m_M_stood.2.1 m_M_stood.2.2.1 m_M_stood.2.2.2.1 m_M_stood.2.2.2.2 ∈ sg_GT := sg_inGT (List.mem_of_getElem? (i := 1250) rfl) rfl
theorem cy_M_stood : sg_CY m_M_stood 3 := ⟨by decide +kernel, rfl, sg_inGT (List.mem_of_getElem? (i := 20) (by decide +kernel)) rfl, cw_M_stood, ⟨by decide +kernel, by decide +kernel, by decide +kernel⟩, by decide⟩
theorem cv_M_stood : sg_CV m_M_stood 3 := ⟨cy_M_stood, sg_inGT (List.mem_of_getElem? (i := 1248) (by decide +kernel)) rfl, sg_inGT (List.mem_of_getElem? (i := 1249) (by decide +kernel)) rfl⟩
def m_M_stoodOf : SgY := (11, yX11_stoodOf, cX11_stoodOf, 5, some .int)
set_option maxRecDepth 100000 in
theorem cw_M_stoodOf : Cond.code m_M_stoodOf.2.1 m_M_stoodOf.2.2.1 m_M_stoodOf.2.2.2.1 m_M_stoodOf.2.2.2.2 ∈ sg_GT := sg_inGT (List.mem_of_getElem? (i := 1254) rfl) rfl
theorem cy_M_stoodOf : sg_CY m_M_stoodOf 3 := ⟨by decide +kernel, rfl, sg_inGT (List.mem_of_getElem? (i := 20) (by decide +kernel)) rfl, cw_M_stoodOf, ⟨by decide +kernel, by decide +kernel, by decide +kernel⟩, by decide⟩
theorem cv_M_stoodOf : sg_CV m_M_stoodOf 3 := ⟨cy_M_stoodOf, sg_inGT (List.mem_of_getElem? (i := 1253) (by decide +kernel)) rfl, sg_inP (List.mem_of_getElem? (i := 38) (by decide +kernel)) rfl⟩
def m_M_stroll : SgY := (11, yX11_stroll, cX11_stroll, 3, some .int)
set_option maxRecDepth 100000 in
theorem cw_M_stroll : Cond.code m_M_stroll.2.1 m_M_stroll.2.2.1 m_M_stroll.2.2.2.1 m_M_stroll.2.2.2.2 ∈ sg_GT := sg_inGT (List.mem_of_getElem? (i := 1309) rfl) rfl
theorem cy_M_stroll : sg_CY m_M_stroll 2 := ⟨by decide +kernel, rfl, sg_inGT (List.mem_of_getElem? (i := 20) (by decide +kernel)) rfl, cw_M_stroll, ⟨by decide +kernel, by decide +kernel, by decide +kernel⟩, by decide⟩
theorem cv_M_stroll : sg_CV m_M_stroll 2 := ⟨cy_M_stroll, sg_inGT (List.mem_of_getElem? (i := 1307) (by decide +kernel)) rfl, sg_inGT (List.mem_of_getElem? (i := 1308) (by decide +kernel)) rfl⟩
def m_M_strollOf : SgY := (11, yX11_strollOf, cX11_strollOf, 8, some .int)
set_option maxRecDepth 100000 in
theorem cw_M_strollOf : Cond.code m_M_strollOf.2.1 m_M_strollOf.2.2.1 m_M_strollOf.2.2.2.1 m_M_strollOf.2.2.2.2 ∈ sg_GT := sg_inGT (List.mem_of_getElem? (i := 1313) rfl) rfl
theorem cy_M_strollOf : sg_CY m_M_strollOf 2 := ⟨by decide +kernel, rfl, sg_inGT (List.mem_of_getElem? (i := 20) (by decide +kernel)) rfl, cw_M_strollOf, ⟨by decide +kernel, by decide +kernel, by decide +kernel⟩, by decide⟩
theorem cv_M_strollOf : sg_CV m_M_strollOf 2 := ⟨cy_M_strollOf, sg_inGT (List.mem_of_getElem? (i := 1312) (by decide +kernel)) rfl, sg_inP (List.mem_of_getElem? (i := 45) (by decide +kernel)) rfl⟩
def m_M_tellsHour : SgY := (11, yX11_tellsHour, cX11_tellsHour, 8, some .long)
set_option maxRecDepth 100000 in
theorem cw_M_tellsHour : Cond.code m_M_tellsHour.2.1 m_M_tellsHour.2.2.1 m_M_tellsHour.2.2.2.1 m_M_tellsHour.2.2.2.2 ∈ sg_GT := sg_inGT (List.mem_of_getElem? (i := 1458) rfl) rfl
theorem cy_M_tellsHour : sg_CY m_M_tellsHour 3 := ⟨by decide +kernel, rfl, sg_inGT (List.mem_of_getElem? (i := 20) (by decide +kernel)) rfl, cw_M_tellsHour, ⟨by decide +kernel, by decide +kernel, by decide +kernel⟩, by decide⟩
theorem cv_M_tellsHour : sg_CV m_M_tellsHour 3 := ⟨cy_M_tellsHour, sg_inGT (List.mem_of_getElem? (i := 1457) (by decide +kernel)) rfl, sg_inP (List.mem_of_getElem? (i := 63) (by decide +kernel)) rfl⟩
def m_M_tellsPerson : SgY := (11, yX11_tellsPerson, cX11_tellsPerson, 7, some .long)
set_option maxRecDepth 100000 in
theorem cw_M_tellsPerson : Cond.code m_M_tellsPerson.2.1 m_M_tellsPerson.2.2.1 m_M_tellsPerson.2.2.2.1 m_M_tellsPerson.2.2.2.2 ∈ sg_GT := sg_inGT (List.mem_of_getElem? (i := 1454) rfl) rfl
theorem cy_M_tellsPerson : sg_CY m_M_tellsPerson 2 := ⟨by decide +kernel, rfl, sg_inGT (List.mem_of_getElem? (i := 20) (by decide +kernel)) rfl, cw_M_tellsPerson, ⟨by decide +kernel, by decide +kernel, by decide +kernel⟩, by decide⟩
theorem cv_M_tellsPerson : sg_CV m_M_tellsPerson 2 := ⟨cy_M_tellsPerson, sg_inGT (List.mem_of_getElem? (i := 1453) (by decide +kernel)) rfl, sg_inP (List.mem_of_getElem? (i := 62) (by decide +kernel)) rfl⟩
def m_M_tellsPost : SgY := (11, yX11_tellsPost, cX11_tellsPost, 6, some .long)
set_option maxRecDepth 100000 in
theorem cw_M_tellsPost : Cond.code m_M_tellsPost.2.1 m_M_tellsPost.2.2.1 m_M_tellsPost.2.2.2.1 m_M_tellsPost.2.2.2.2 ∈ sg_GT := sg_inGT (List.mem_of_getElem? (i := 1446) rfl) rfl
theorem cy_M_tellsPost : sg_CY m_M_tellsPost 2 := ⟨by decide +kernel, rfl, sg_inGT (List.mem_of_getElem? (i := 20) (by decide +kernel)) rfl, cw_M_tellsPost, ⟨by decide +kernel, by decide +kernel, by decide +kernel⟩, by decide⟩
theorem cv_M_tellsPost : sg_CV m_M_tellsPost 2 := ⟨cy_M_tellsPost, sg_inGT (List.mem_of_getElem? (i := 1445) (by decide +kernel)) rfl, sg_inP (List.mem_of_getElem? (i := 60) (by decide +kernel)) rfl⟩
def m_M_tellsStood : SgY := (11, yX11_tellsStood, cX11_tellsStood, 8, some .long)
set_option maxRecDepth 100000 in
theorem cw_M_tellsStood : Cond.code m_M_tellsStood.2.1 m_M_tellsStood.2.2.1 m_M_tellsStood.2.2.2.1 m_M_tellsStood.2.2.2.2 ∈ sg_GT := sg_inGT (List.mem_of_getElem? (i := 1450) rfl) rfl
theorem cy_M_tellsStood : sg_CY m_M_tellsStood 3 := ⟨by decide +kernel, rfl, sg_inGT (List.mem_of_getElem? (i := 20) (by decide +kernel)) rfl, cw_M_tellsStood, ⟨by decide +kernel, by decide +kernel, by decide +kernel⟩, by decide⟩
theorem cv_M_tellsStood : sg_CV m_M_tellsStood 3 := ⟨cy_M_tellsStood, sg_inGT (List.mem_of_getElem? (i := 1449) (by decide +kernel)) rfl, sg_inP (List.mem_of_getElem? (i := 61) (by decide +kernel)) rfl⟩
def m_M_type : SgY := (11, yX11_type, cX11_type, 3, some .int)
set_option maxRecDepth 100000 in
theorem cw_M_type : Cond.code m_M_type.2.1 m_M_type.2.2.1 m_M_type.2.2.2.1 m_M_type.2.2.2.2 ∈ sg_GT := sg_inGT (List.mem_of_getElem? (i := 1125) rfl) rfl
theorem cy_M_type : sg_CY m_M_type 2 := ⟨by decide +kernel, rfl, sg_inGT (List.mem_of_getElem? (i := 20) (by decide +kernel)) rfl, cw_M_type, ⟨by decide +kernel, by decide +kernel, by decide +kernel⟩, by decide⟩
theorem cv_M_type : sg_CV m_M_type 2 := ⟨cy_M_type, sg_inGT (List.mem_of_getElem? (i := 1123) (by decide +kernel)) rfl, sg_inGT (List.mem_of_getElem? (i := 1124) (by decide +kernel)) rfl⟩
def m_M_undo : SgY := (11, yX11_undo, cX11_undo, 2, some .int)
set_option maxRecDepth 100000 in
theorem cw_M_undo : Cond.code m_M_undo.2.1 m_M_undo.2.2.1 m_M_undo.2.2.2.1 m_M_undo.2.2.2.2 ∈ sg_GT := sg_inGT (List.mem_of_getElem? (i := 1137) rfl) rfl
theorem cy_M_undo : sg_CY m_M_undo 1 := ⟨by decide +kernel, rfl, sg_inGT (List.mem_of_getElem? (i := 20) (by decide +kernel)) rfl, cw_M_undo, ⟨by decide +kernel, by decide +kernel, by decide +kernel⟩, by decide⟩
theorem cv_M_undo : sg_CV m_M_undo 1 := ⟨cy_M_undo, sg_inGT (List.mem_of_getElem? (i := 1135) (by decide +kernel)) rfl, sg_inGT (List.mem_of_getElem? (i := 1136) (by decide +kernel)) rfl⟩
def m_M_was : SgY := (11, yX11_was, cX11_was, 3, some .int)
set_option maxRecDepth 100000 in
theorem cw_M_was : Cond.code m_M_was.2.1 m_M_was.2.2.1 m_M_was.2.2.2.1 m_M_was.2.2.2.2 ∈ sg_GT := sg_inGT (List.mem_of_getElem? (i := 1370) rfl) rfl
theorem cy_M_was : sg_CY m_M_was 2 := ⟨by decide +kernel, rfl, sg_inGT (List.mem_of_getElem? (i := 20) (by decide +kernel)) rfl, cw_M_was, ⟨by decide +kernel, by decide +kernel, by decide +kernel⟩, by decide⟩
theorem cv_M_was : sg_CV m_M_was 2 := ⟨cy_M_was, sg_inGT (List.mem_of_getElem? (i := 1368) (by decide +kernel)) rfl, sg_inGT (List.mem_of_getElem? (i := 1369) (by decide +kernel)) rfl⟩
def m_M_wasOf : SgY := (11, yX11_wasOf, cX11_wasOf, 3, some .int)
set_option maxRecDepth 100000 in
theorem cw_M_wasOf : Cond.code m_M_wasOf.2.1 m_M_wasOf.2.2.1 m_M_wasOf.2.2.2.1 m_M_wasOf.2.2.2.2 ∈ sg_GT := sg_inGT (List.mem_of_getElem? (i := 1374) rfl) rfl
theorem cy_M_wasOf : sg_CY m_M_wasOf 2 := ⟨by decide +kernel, rfl, sg_inGT (List.mem_of_getElem? (i := 20) (by decide +kernel)) rfl, cw_M_wasOf, ⟨by decide +kernel, by decide +kernel, by decide +kernel⟩, by decide⟩
theorem cv_M_wasOf : sg_CV m_M_wasOf 2 := ⟨cy_M_wasOf, sg_inGT (List.mem_of_getElem? (i := 1373) (by decide +kernel)) rfl, sg_inP (List.mem_of_getElem? (i := 52) (by decide +kernel)) rfl⟩
def m_M_wipe : SgY := (11, yX11_wipe, cX11_wipe, 3, some .int)
set_option maxRecDepth 100000 in
theorem cw_M_wipe : Cond.code m_M_wipe.2.1 m_M_wipe.2.2.1 m_M_wipe.2.2.2.1 m_M_wipe.2.2.2.2 ∈ sg_GT := sg_inGT (List.mem_of_getElem? (i := 1133) rfl) rfl
theorem cy_M_wipe : sg_CY m_M_wipe 1 := ⟨by decide +kernel, rfl, sg_inGT (List.mem_of_getElem? (i := 20) (by decide +kernel)) rfl, cw_M_wipe, ⟨by decide +kernel, by decide +kernel, by decide +kernel⟩, by decide⟩
theorem cv_M_wipe : sg_CV m_M_wipe 1 := ⟨cy_M_wipe, sg_inGT (List.mem_of_getElem? (i := 1131) (by decide +kernel)) rfl, sg_inGT (List.mem_of_getElem? (i := 1132) (by decide +kernel)) rfl⟩
def m_M_write : SgY := (11, yX11_write, cX11_write, 5, some .int)
set_option maxRecDepth 100000 in
theorem cw_M_write : Cond.code m_M_write.2.1 m_M_write.2.2.1 m_M_write.2.2.2.1 m_M_write.2.2.2.2 ∈ sg_GT := sg_inGT (List.mem_of_getElem? (i := 1431) rfl) rfl
theorem cy_M_write : sg_CY m_M_write 2 := ⟨by decide +kernel, rfl, sg_inGT (List.mem_of_getElem? (i := 20) (by decide +kernel)) rfl, cw_M_write, ⟨by decide +kernel, by decide +kernel, by decide +kernel⟩, by decide⟩
theorem cv_M_write : sg_CV m_M_write 2 := ⟨cy_M_write, sg_inGT (List.mem_of_getElem? (i := 1429) (by decide +kernel)) rfl, sg_inGT (List.mem_of_getElem? (i := 1430) (by decide +kernel)) rfl⟩
def m_P_planDust : SgY := (5, yX5_planDust, cX5_planDust, 4, none)
set_option maxRecDepth 100000 in
theorem cw_P_planDust : Cond.code m_P_planDust.2.1 m_P_planDust.2.2.1 m_P_planDust.2.2.2.1 m_P_planDust.2.2.2.2 ∈ sg_GT := sg_inGT (List.mem_of_getElem? (i := 750) rfl) rfl
theorem cy_P_planDust : sg_CY m_P_planDust 1 := ⟨by decide +kernel, rfl, sg_inGT (List.mem_of_getElem? (i := 16) (by decide +kernel)) rfl, cw_P_planDust, ⟨by decide +kernel, by decide +kernel, by decide +kernel⟩, by decide⟩
theorem cv_P_planDust : sg_CV m_P_planDust 1 := ⟨cy_P_planDust, sg_inGT (List.mem_of_getElem? (i := 748) (by decide +kernel)) rfl, sg_inGT (List.mem_of_getElem? (i := 749) (by decide +kernel)) rfl⟩
def m_P_planHush : SgY := (5, yX5_planHush, cX5_planHush, 4, none)
set_option maxRecDepth 100000 in
theorem cw_P_planHush : Cond.code m_P_planHush.2.1 m_P_planHush.2.2.1 m_P_planHush.2.2.2.1 m_P_planHush.2.2.2.2 ∈ sg_GT := sg_inGT (List.mem_of_getElem? (i := 758) rfl) rfl
theorem cy_P_planHush : sg_CY m_P_planHush 1 := ⟨by decide +kernel, rfl, sg_inGT (List.mem_of_getElem? (i := 16) (by decide +kernel)) rfl, cw_P_planHush, ⟨by decide +kernel, by decide +kernel, by decide +kernel⟩, by decide⟩
theorem cv_P_planHush : sg_CV m_P_planHush 1 := ⟨cy_P_planHush, sg_inGT (List.mem_of_getElem? (i := 756) (by decide +kernel)) rfl, sg_inGT (List.mem_of_getElem? (i := 757) (by decide +kernel)) rfl⟩
def m_P_planSpare : SgY := (5, yX5_planSpare, cX5_planSpare, 4, none)
set_option maxRecDepth 100000 in
theorem cw_P_planSpare : Cond.code m_P_planSpare.2.1 m_P_planSpare.2.2.1 m_P_planSpare.2.2.2.1 m_P_planSpare.2.2.2.2 ∈ sg_GT := sg_inGT (List.mem_of_getElem? (i := 766) rfl) rfl
theorem cy_P_planSpare : sg_CY m_P_planSpare 0 := ⟨by decide +kernel, rfl, sg_inGT (List.mem_of_getElem? (i := 16) (by decide +kernel)) rfl, cw_P_planSpare, ⟨by decide +kernel, by decide +kernel, by decide +kernel⟩, by decide⟩
theorem cv_P_planSpare : sg_CV m_P_planSpare 0 := ⟨cy_P_planSpare, sg_inGT (List.mem_of_getElem? (i := 764) (by decide +kernel)) rfl, sg_inGT (List.mem_of_getElem? (i := 765) (by decide +kernel)) rfl⟩
def m_P_planStroll : SgY := (5, yX5_planStroll, cX5_planStroll, 4, none)
set_option maxRecDepth 100000 in
theorem cw_P_planStroll : Cond.code m_P_planStroll.2.1 m_P_planStroll.2.2.1 m_P_planStroll.2.2.2.1 m_P_planStroll.2.2.2.2 ∈ sg_GT := sg_inGT (List.mem_of_getElem? (i := 741) rfl) rfl
theorem cy_P_planStroll : sg_CY m_P_planStroll 1 := ⟨by decide +kernel, rfl, sg_inGT (List.mem_of_getElem? (i := 16) (by decide +kernel)) rfl, cw_P_planStroll, ⟨by decide +kernel, by decide +kernel, by decide +kernel⟩, by decide⟩
theorem cv_P_planStroll : sg_CV m_P_planStroll 1 := ⟨cy_P_planStroll, sg_inGT (List.mem_of_getElem? (i := 739) (by decide +kernel)) rfl, sg_inGT (List.mem_of_getElem? (i := 740) (by decide +kernel)) rfl⟩
def m_P_setSpare : SgY := (5, yX5_setSpare, cX5_setSpare, 4, none)
set_option maxRecDepth 100000 in
theorem cw_P_setSpare : Cond.code m_P_setSpare.2.1 m_P_setSpare.2.2.1 m_P_setSpare.2.2.2.1 m_P_setSpare.2.2.2.2 ∈ sg_GT := sg_inGT (List.mem_of_getElem? (i := 770) rfl) rfl
theorem cy_P_setSpare : sg_CY m_P_setSpare 3 := ⟨by decide +kernel, rfl, sg_inGT (List.mem_of_getElem? (i := 16) (by decide +kernel)) rfl, cw_P_setSpare, ⟨by decide +kernel, by decide +kernel, by decide +kernel⟩, by decide⟩
theorem cv_P_setSpare : sg_CV m_P_setSpare 3 := ⟨cy_P_setSpare, sg_inGT (List.mem_of_getElem? (i := 769) (by decide +kernel)) rfl, sg_inP (List.mem_of_getElem? (i := 13) (by decide +kernel)) rfl⟩
def m_S_checkBoundsBeginEnd : SgY := (20, yJ0_checkBoundsBeginEnd_23922, cJ0_checkBoundsBeginEnd_23922, 3, none)
set_option maxRecDepth 100000 in
theorem cw_S_checkBoundsBeginEnd : Cond.code m_S_checkBoundsBeginEnd.2.1 m_S_checkBoundsBeginEnd.2.2.1 m_S_checkBoundsBeginEnd.2.2.2.1 m_S_checkBoundsBeginEnd.2.2.2.2 ∈ sg_GT := sg_inGT (List.mem_of_getElem? (i := 319) rfl) rfl
theorem cy_S_checkBoundsBeginEnd : sg_CY m_S_checkBoundsBeginEnd 3 := ⟨by decide +kernel, rfl, sg_inGT (List.mem_of_getElem? (i := 8) (by decide +kernel)) rfl, cw_S_checkBoundsBeginEnd, ⟨by decide +kernel, by decide +kernel, by decide +kernel⟩, by decide⟩
theorem cs_S_checkBoundsBeginEnd : sg_CS m_S_checkBoundsBeginEnd 3 := ⟨cy_S_checkBoundsBeginEnd, sg_inGT (List.mem_of_getElem? (i := 318) (by decide +kernel)) rfl⟩
def m_S_coder : SgY := (20, yJ0_coder_7d493, cJ0_coder_7d493, 1, some .byte)
set_option maxRecDepth 100000 in
theorem cw_S_coder : Cond.code m_S_coder.2.1 m_S_coder.2.2.1 m_S_coder.2.2.2.1 m_S_coder.2.2.2.2 ∈ sg_GT := sg_inGT (List.mem_of_getElem? (i := 286) rfl) rfl
theorem cy_S_coder : sg_CY m_S_coder 0 := ⟨by decide +kernel, rfl, sg_inGT (List.mem_of_getElem? (i := 8) (by decide +kernel)) rfl, cw_S_coder, ⟨by decide +kernel, by decide +kernel, by decide +kernel⟩, by decide⟩
theorem cv_S_coder : sg_CV m_S_coder 0 := ⟨cy_S_coder, sg_inGT (List.mem_of_getElem? (i := 284) (by decide +kernel)) rfl, sg_inGT (List.mem_of_getElem? (i := 285) (by decide +kernel)) rfl⟩
def m_S_indexOf1 : SgY := (20, yJ0_indexOf_0f7a4, cJ0_indexOf_0f7a4, 2, some .int)
set_option maxRecDepth 100000 in
theorem cw_S_indexOf1 : Cond.code m_S_indexOf1.2.1 m_S_indexOf1.2.2.1 m_S_indexOf1.2.2.2.1 m_S_indexOf1.2.2.2.2 ∈ sg_GT := sg_inGT (List.mem_of_getElem? (i := 268) rfl) rfl
theorem cy_S_indexOf1 : sg_CY m_S_indexOf1 1 := ⟨by decide +kernel, rfl, sg_inGT (List.mem_of_getElem? (i := 8) (by decide +kernel)) rfl, cw_S_indexOf1, ⟨by decide +kernel, by decide +kernel, by decide +kernel⟩, by decide⟩
theorem cv_S_indexOf1 : sg_CV m_S_indexOf1 1 := ⟨cy_S_indexOf1, sg_inGT (List.mem_of_getElem? (i := 266) (by decide +kernel)) rfl, sg_inGT (List.mem_of_getElem? (i := 267) (by decide +kernel)) rfl⟩
def m_S_indexOf2 : SgY := (20, yJ0_indexOf_7cf53, cJ0_indexOf_7cf53, 3, some .int)
set_option maxRecDepth 100000 in
theorem cw_S_indexOf2 : Cond.code m_S_indexOf2.2.1 m_S_indexOf2.2.2.1 m_S_indexOf2.2.2.2.1 m_S_indexOf2.2.2.2.2 ∈ sg_GT := sg_inGT (List.mem_of_getElem? (i := 272) rfl) rfl
theorem cy_S_indexOf2 : sg_CY m_S_indexOf2 2 := ⟨by decide +kernel, rfl, sg_inGT (List.mem_of_getElem? (i := 8) (by decide +kernel)) rfl, cw_S_indexOf2, ⟨by decide +kernel, by decide +kernel, by decide +kernel⟩, by decide⟩
theorem cv_S_indexOf2 : sg_CV m_S_indexOf2 2 := ⟨cy_S_indexOf2, sg_inGT (List.mem_of_getElem? (i := 270) (by decide +kernel)) rfl, sg_inGT (List.mem_of_getElem? (i := 271) (by decide +kernel)) rfl⟩
def m_S_isLatin1 : SgY := (20, yJ0_isLatin1_aae02, cJ0_isLatin1_aae02, 1, some .boolean)
set_option maxRecDepth 100000 in
theorem cw_S_isLatin1 : Cond.code m_S_isLatin1.2.1 m_S_isLatin1.2.2.1 m_S_isLatin1.2.2.2.1 m_S_isLatin1.2.2.2.2 ∈ sg_GT := sg_inGT (List.mem_of_getElem? (i := 276) rfl) rfl
theorem cy_S_isLatin1 : sg_CY m_S_isLatin1 0 := ⟨by decide +kernel, rfl, sg_inGT (List.mem_of_getElem? (i := 8) (by decide +kernel)) rfl, cw_S_isLatin1, ⟨by decide +kernel, by decide +kernel, by decide +kernel⟩, by decide⟩
theorem cv_S_isLatin1 : sg_CV m_S_isLatin1 0 := ⟨cy_S_isLatin1, sg_inGT (List.mem_of_getElem? (i := 274) (by decide +kernel)) rfl, sg_inGT (List.mem_of_getElem? (i := 275) (by decide +kernel)) rfl⟩
def m_S_length : SgY := (20, yJ0_length_8abf5, cJ0_length_8abf5, 1, some .int)
set_option maxRecDepth 100000 in
theorem cw_S_length : Cond.code m_S_length.2.1 m_S_length.2.2.1 m_S_length.2.2.2.1 m_S_length.2.2.2.2 ∈ sg_GT := sg_inGT (List.mem_of_getElem? (i := 282) rfl) rfl
theorem cy_S_length : sg_CY m_S_length 0 := ⟨by decide +kernel, rfl, sg_inGT (List.mem_of_getElem? (i := 8) (by decide +kernel)) rfl, cw_S_length, ⟨by decide +kernel, by decide +kernel, by decide +kernel⟩, by decide⟩
theorem cv_S_length : sg_CV m_S_length 0 := ⟨cy_S_length, sg_inGT (List.mem_of_getElem? (i := 280) (by decide +kernel)) rfl, sg_inGT (List.mem_of_getElem? (i := 281) (by decide +kernel)) rfl⟩
def m_T_add : SgY := (7, yX7_add, cX7_add, 2, some .int)
set_option maxRecDepth 100000 in
theorem cw_T_add : Cond.code m_T_add.2.1 m_T_add.2.2.1 m_T_add.2.2.2.1 m_T_add.2.2.2.2 ∈ sg_GT := sg_inGT (List.mem_of_getElem? (i := 610) rfl) rfl
theorem cy_T_add : sg_CY m_T_add 1 := ⟨by decide +kernel, rfl, sg_inGT (List.mem_of_getElem? (i := 3) (by decide +kernel)) rfl, cw_T_add, ⟨by decide +kernel, by decide +kernel, by decide +kernel⟩, by decide⟩
theorem cv_T_add : sg_CV m_T_add 1 := ⟨cy_T_add, sg_inGT (List.mem_of_getElem? (i := 608) (by decide +kernel)) rfl, sg_inGT (List.mem_of_getElem? (i := 609) (by decide +kernel)) rfl⟩
def m_T_clear : SgY := (7, yX7_clear, cX7_clear, 2, some .int)
set_option maxRecDepth 100000 in
theorem cw_T_clear : Cond.code m_T_clear.2.1 m_T_clear.2.2.1 m_T_clear.2.2.2.1 m_T_clear.2.2.2.2 ∈ sg_GT := sg_inGT (List.mem_of_getElem? (i := 619) rfl) rfl
theorem cy_T_clear : sg_CY m_T_clear 0 := ⟨by decide +kernel, rfl, sg_inGT (List.mem_of_getElem? (i := 3) (by decide +kernel)) rfl, cw_T_clear, ⟨by decide +kernel, by decide +kernel, by decide +kernel⟩, by decide⟩
theorem cv_T_clear : sg_CV m_T_clear 0 := ⟨cy_T_clear, sg_inGT (List.mem_of_getElem? (i := 617) (by decide +kernel)) rfl, sg_inGT (List.mem_of_getElem? (i := 618) (by decide +kernel)) rfl⟩
def m_T_dropLast : SgY := (7, yX7_dropLast, cX7_dropLast, 1, some .int)
set_option maxRecDepth 100000 in
theorem cw_T_dropLast : Cond.code m_T_dropLast.2.1 m_T_dropLast.2.2.1 m_T_dropLast.2.2.2.1 m_T_dropLast.2.2.2.2 ∈ sg_GT := sg_inGT (List.mem_of_getElem? (i := 627) rfl) rfl
theorem cy_T_dropLast : sg_CY m_T_dropLast 0 := ⟨by decide +kernel, rfl, sg_inGT (List.mem_of_getElem? (i := 3) (by decide +kernel)) rfl, cw_T_dropLast, ⟨by decide +kernel, by decide +kernel, by decide +kernel⟩, by decide⟩
theorem cv_T_dropLast : sg_CV m_T_dropLast 0 := ⟨cy_T_dropLast, sg_inGT (List.mem_of_getElem? (i := 625) (by decide +kernel)) rfl, sg_inGT (List.mem_of_getElem? (i := 626) (by decide +kernel)) rfl⟩
def m_T_firstFault : SgY := (7, yX7_firstFault, cX7_firstFault, 3, some .int)
set_option maxRecDepth 100000 in
theorem cw_T_firstFault : Cond.code m_T_firstFault.2.1 m_T_firstFault.2.2.1 m_T_firstFault.2.2.2.1 m_T_firstFault.2.2.2.2 ∈ sg_GT := sg_inGT (List.mem_of_getElem? (i := 248) rfl) rfl
theorem cy_T_firstFault : sg_CY m_T_firstFault 0 := ⟨by decide +kernel, rfl, sg_inGT (List.mem_of_getElem? (i := 3) (by decide +kernel)) rfl, cw_T_firstFault, ⟨by decide +kernel, by decide +kernel, by decide +kernel⟩, by decide⟩
theorem cv_T_firstFault : sg_CV m_T_firstFault 0 := ⟨cy_T_firstFault, sg_inGT (List.mem_of_getElem? (i := 246) (by decide +kernel)) rfl, sg_inGT (List.mem_of_getElem? (i := 247) (by decide +kernel)) rfl⟩
def m_T_number : SgY := (7, yX7_number, cX7_number, 4, some .int)
set_option maxRecDepth 100000 in
theorem cw_T_number : Cond.code m_T_number.2.1 m_T_number.2.2.1 m_T_number.2.2.2.1 m_T_number.2.2.2.2 ∈ sg_GT := sg_inGT (List.mem_of_getElem? (i := 355) rfl) rfl
theorem cy_T_number : sg_CY m_T_number 2 := ⟨by decide +kernel, rfl, sg_inGT (List.mem_of_getElem? (i := 3) (by decide +kernel)) rfl, cw_T_number, ⟨by decide +kernel, by decide +kernel, by decide +kernel⟩, by decide⟩
theorem cv_T_number : sg_CV m_T_number 2 := ⟨cy_T_number, sg_inGT (List.mem_of_getElem? (i := 353) (by decide +kernel)) rfl, sg_inGT (List.mem_of_getElem? (i := 354) (by decide +kernel)) rfl⟩
def m_T_signs : SgY := (7, yX7_signs, cX7_signs, 2, some (.object "java/lang/String"))
set_option maxRecDepth 100000 in
theorem cw_T_signs : Cond.code m_T_signs.2.1 m_T_signs.2.2.1 m_T_signs.2.2.2.1 m_T_signs.2.2.2.2 ∈ sg_GT := sg_inGT (List.mem_of_getElem? (i := 252) rfl) rfl
theorem cy_T_signs : sg_CY m_T_signs 1 := ⟨by decide +kernel, rfl, sg_inGT (List.mem_of_getElem? (i := 3) (by decide +kernel)) rfl, cw_T_signs, ⟨by decide +kernel, by decide +kernel, by decide +kernel⟩, by decide⟩
theorem cv_T_signs : sg_CV m_T_signs 1 := ⟨cy_T_signs, sg_inGT (List.mem_of_getElem? (i := 251) (by decide +kernel)) rfl, sg_inP (List.mem_of_getElem? (i := 0) (by decide +kernel)) rfl⟩
def m_T_signsOfPerson : SgY := (7, yX7_signsOfPerson, cX7_signsOfPerson, 1, some (.object "java/lang/String"))
set_option maxRecDepth 100000 in
theorem cw_T_signsOfPerson : Cond.code m_T_signsOfPerson.2.1 m_T_signsOfPerson.2.2.1 m_T_signsOfPerson.2.2.2.1 m_T_signsOfPerson.2.2.2.2 ∈ sg_GT := sg_inGT (List.mem_of_getElem? (i := 261) rfl) rfl
theorem cy_T_signsOfPerson : sg_CY m_T_signsOfPerson 1 := ⟨by decide +kernel, rfl, sg_inGT (List.mem_of_getElem? (i := 3) (by decide +kernel)) rfl, cw_T_signsOfPerson, ⟨by decide +kernel, by decide +kernel, by decide +kernel⟩, by decide⟩
theorem cs_T_signsOfPerson : sg_CS m_T_signsOfPerson 1 := ⟨cy_T_signsOfPerson, sg_inGT (List.mem_of_getElem? (i := 260) (by decide +kernel)) rfl⟩
def m_T_signsOfPost : SgY := (7, yX7_signsOfPost, cX7_signsOfPost, 1, some (.object "java/lang/String"))
set_option maxRecDepth 100000 in
theorem cw_T_signsOfPost : Cond.code m_T_signsOfPost.2.1 m_T_signsOfPost.2.2.1 m_T_signsOfPost.2.2.2.1 m_T_signsOfPost.2.2.2.2 ∈ sg_GT := sg_inGT (List.mem_of_getElem? (i := 255) rfl) rfl
theorem cy_T_signsOfPost : sg_CY m_T_signsOfPost 1 := ⟨by decide +kernel, rfl, sg_inGT (List.mem_of_getElem? (i := 3) (by decide +kernel)) rfl, cw_T_signsOfPost, ⟨by decide +kernel, by decide +kernel, by decide +kernel⟩, by decide⟩
theorem cs_T_signsOfPost : sg_CS m_T_signsOfPost 1 := ⟨cy_T_signsOfPost, sg_inGT (List.mem_of_getElem? (i := 254) (by decide +kernel)) rfl⟩
def m_T_things : SgY := (7, yX7_things, cX7_things, 1, some .int)
set_option maxRecDepth 100000 in
theorem cw_T_things : Cond.code m_T_things.2.1 m_T_things.2.2.1 m_T_things.2.2.2.1 m_T_things.2.2.2.2 ∈ sg_GT := sg_inGT (List.mem_of_getElem? (i := 244) rfl) rfl
theorem cy_T_things : sg_CY m_T_things 0 := ⟨by decide +kernel, rfl, sg_inGT (List.mem_of_getElem? (i := 3) (by decide +kernel)) rfl, cw_T_things, ⟨by decide +kernel, by decide +kernel, by decide +kernel⟩, by decide⟩
theorem cv_T_things : sg_CV m_T_things 0 := ⟨cy_T_things, sg_inGT (List.mem_of_getElem? (i := 242) (by decide +kernel)) rfl, sg_inGT (List.mem_of_getElem? (i := 243) (by decide +kernel)) rfl⟩
def m_W_hearersByDistance : SgY := (8, yX8_hearersByDistance, cX8_hearersByDistance, 5, some .int)
set_option maxRecDepth 100000 in
theorem cw_W_hearersByDistance : Cond.code m_W_hearersByDistance.2.1 m_W_hearersByDistance.2.2.1 m_W_hearersByDistance.2.2.2.1 m_W_hearersByDistance.2.2.2.2 ∈ sg_GT := sg_inGT (List.mem_of_getElem? (i := 364) rfl) rfl
theorem cy_W_hearersByDistance : sg_CY m_W_hearersByDistance 2 := ⟨by decide +kernel, rfl, sg_inGT (List.mem_of_getElem? (i := 4) (by decide +kernel)) rfl, cw_W_hearersByDistance, ⟨by decide +kernel, by decide +kernel, by decide +kernel⟩, by decide⟩
theorem cv_W_hearersByDistance : sg_CV m_W_hearersByDistance 2 := ⟨cy_W_hearersByDistance, sg_inGT (List.mem_of_getElem? (i := 363) (by decide +kernel)) rfl, sg_inP (List.mem_of_getElem? (i := 1) (by decide +kernel)) rfl⟩
def m_W_hearersOf : SgY := (8, yX8_hearersOf, cX8_hearersOf, 4, some .int)
set_option maxRecDepth 100000 in
theorem cw_W_hearersOf : Cond.code m_W_hearersOf.2.1 m_W_hearersOf.2.2.1 m_W_hearersOf.2.2.2.1 m_W_hearersOf.2.2.2.2 ∈ sg_GT := sg_inGT (List.mem_of_getElem? (i := 424) rfl) rfl
theorem cy_W_hearersOf : sg_CY m_W_hearersOf 2 := ⟨by decide +kernel, rfl, sg_inGT (List.mem_of_getElem? (i := 4) (by decide +kernel)) rfl, cw_W_hearersOf, ⟨by decide +kernel, by decide +kernel, by decide +kernel⟩, by decide⟩
theorem cv_W_hearersOf : sg_CV m_W_hearersOf 2 := ⟨cy_W_hearersOf, sg_inGT (List.mem_of_getElem? (i := 422) (by decide +kernel)) rfl, sg_inGT (List.mem_of_getElem? (i := 423) (by decide +kernel)) rfl⟩
def m_W_loadPeople : SgY := (8, yX8_loadPeople, cX8_loadPeople, 3, none)
set_option maxRecDepth 100000 in
theorem cw_W_loadPeople : Cond.code m_W_loadPeople.2.1 m_W_loadPeople.2.2.1 m_W_loadPeople.2.2.2.1 m_W_loadPeople.2.2.2.2 ∈ sg_GT := sg_inGT (List.mem_of_getElem? (i := 371) rfl) rfl
theorem cy_W_loadPeople : sg_CY m_W_loadPeople 1 := ⟨by decide +kernel, rfl, sg_inGT (List.mem_of_getElem? (i := 4) (by decide +kernel)) rfl, cw_W_loadPeople, ⟨by decide +kernel, by decide +kernel, by decide +kernel⟩, by decide⟩
theorem cv_W_loadPeople : sg_CV m_W_loadPeople 1 := ⟨cy_W_loadPeople, sg_inGT (List.mem_of_getElem? (i := 369) (by decide +kernel)) rfl, sg_inGT (List.mem_of_getElem? (i := 370) (by decide +kernel)) rfl⟩
def m_W_loadPosts : SgY := (8, yX8_loadPosts, cX8_loadPosts, 4, none)
set_option maxRecDepth 100000 in
theorem cw_W_loadPosts : Cond.code m_W_loadPosts.2.1 m_W_loadPosts.2.2.1 m_W_loadPosts.2.2.2.1 m_W_loadPosts.2.2.2.2 ∈ sg_GT := sg_inGT (List.mem_of_getElem? (i := 240) rfl) rfl
theorem cy_W_loadPosts : sg_CY m_W_loadPosts 1 := ⟨by decide +kernel, rfl, sg_inGT (List.mem_of_getElem? (i := 4) (by decide +kernel)) rfl, cw_W_loadPosts, ⟨by decide +kernel, by decide +kernel, by decide +kernel⟩, by decide⟩
theorem cv_W_loadPosts : sg_CV m_W_loadPosts 1 := ⟨cy_W_loadPosts, sg_inGT (List.mem_of_getElem? (i := 238) (by decide +kernel)) rfl, sg_inGT (List.mem_of_getElem? (i := 239) (by decide +kernel)) rfl⟩
def m_Y_add : SgY := (9, yX9_add, cX9_add, 4, none)
set_option maxRecDepth 100000 in
theorem cw_Y_add : Cond.code m_Y_add.2.1 m_Y_add.2.2.1 m_Y_add.2.2.2.1 m_Y_add.2.2.2.2 ∈ sg_GT := sg_inGT (List.mem_of_getElem? (i := 391) rfl) rfl
theorem cy_Y_add : sg_CY m_Y_add 3 := ⟨by decide +kernel, rfl, sg_inGT (List.mem_of_getElem? (i := 6) (by decide +kernel)) rfl, cw_Y_add, ⟨by decide +kernel, by decide +kernel, by decide +kernel⟩, by decide⟩
theorem cv_Y_add : sg_CV m_Y_add 3 := ⟨cy_Y_add, sg_inGT (List.mem_of_getElem? (i := 390) (by decide +kernel)) rfl, sg_inP (List.mem_of_getElem? (i := 2) (by decide +kernel)) rfl⟩
def m_Y_load : SgY := (9, yX9_load, cX9_load, 4, none)
set_option maxRecDepth 100000 in
theorem cw_Y_load : Cond.code m_Y_load.2.1 m_Y_load.2.2.1 m_Y_load.2.2.2.1 m_Y_load.2.2.2.2 ∈ sg_GT := sg_inGT (List.mem_of_getElem? (i := 383) rfl) rfl
theorem cy_Y_load : sg_CY m_Y_load 2 := ⟨by decide +kernel, rfl, sg_inGT (List.mem_of_getElem? (i := 6) (by decide +kernel)) rfl, cw_Y_load, ⟨by decide +kernel, by decide +kernel, by decide +kernel⟩, by decide⟩
theorem cv_Y_load : sg_CV m_Y_load 2 := ⟨cy_Y_load, sg_inGT (List.mem_of_getElem? (i := 381) (by decide +kernel)) rfl, sg_inGT (List.mem_of_getElem? (i := 382) (by decide +kernel)) rfl⟩
def m_Z_drop : SgY := (6, yX6_drop, cX6_drop, 3, some .int)
set_option maxRecDepth 100000 in
theorem cw_Z_drop : Cond.code m_Z_drop.2.1 m_Z_drop.2.2.1 m_Z_drop.2.2.2.1 m_Z_drop.2.2.2.2 ∈ sg_GT := sg_inGT (List.mem_of_getElem? (i := 885) rfl) rfl
theorem cy_Z_drop : sg_CY m_Z_drop 1 := ⟨by decide +kernel, rfl, sg_inGT (List.mem_of_getElem? (i := 19) (by decide +kernel)) rfl, cw_Z_drop, ⟨by decide +kernel, by decide +kernel, by decide +kernel⟩, by decide⟩
theorem cv_Z_drop : sg_CV m_Z_drop 1 := ⟨cy_Z_drop, sg_inGT (List.mem_of_getElem? (i := 883) (by decide +kernel)) rfl, sg_inGT (List.mem_of_getElem? (i := 884) (by decide +kernel)) rfl⟩
def m_Z_found : SgY := (6, yX6_found, cX6_found, 2, some .int)
set_option maxRecDepth 100000 in
theorem cw_Z_found : Cond.code m_Z_found.2.1 m_Z_found.2.2.1 m_Z_found.2.2.2.1 m_Z_found.2.2.2.2 ∈ sg_GT := sg_inGT (List.mem_of_getElem? (i := 677) rfl) rfl
theorem cy_Z_found : sg_CY m_Z_found 1 := ⟨by decide +kernel, rfl, sg_inGT (List.mem_of_getElem? (i := 19) (by decide +kernel)) rfl, cw_Z_found, ⟨by decide +kernel, by decide +kernel, by decide +kernel⟩, by decide⟩
theorem cv_Z_found : sg_CV m_Z_found 1 := ⟨cy_Z_found, sg_inGT (List.mem_of_getElem? (i := 676) (by decide +kernel)) rfl, sg_inP (List.mem_of_getElem? (i := 12) (by decide +kernel)) rfl⟩
def m_Z_hasRoom : SgY := (6, yX6_hasRoom, cX6_hasRoom, 3, some .boolean)
set_option maxRecDepth 100000 in
theorem cw_Z_hasRoom : Cond.code m_Z_hasRoom.2.1 m_Z_hasRoom.2.2.1 m_Z_hasRoom.2.2.2.1 m_Z_hasRoom.2.2.2.2 ∈ sg_GT := sg_inGT (List.mem_of_getElem? (i := 914) rfl) rfl
theorem cy_Z_hasRoom : sg_CY m_Z_hasRoom 3 := ⟨by decide +kernel, rfl, sg_inGT (List.mem_of_getElem? (i := 19) (by decide +kernel)) rfl, cw_Z_hasRoom, ⟨by decide +kernel, by decide +kernel, by decide +kernel⟩, by decide⟩
theorem cs_Z_hasRoom : sg_CS m_Z_hasRoom 3 := ⟨cy_Z_hasRoom, sg_inGT (List.mem_of_getElem? (i := 913) (by decide +kernel)) rfl⟩
def m_Z_item : SgY := (6, yX6_item, cX6_item, 3, some .int)
set_option maxRecDepth 100000 in
theorem cw_Z_item : Cond.code m_Z_item.2.1 m_Z_item.2.2.1 m_Z_item.2.2.2.1 m_Z_item.2.2.2.2 ∈ sg_GT := sg_inGT (List.mem_of_getElem? (i := 685) rfl) rfl
theorem cy_Z_item : sg_CY m_Z_item 2 := ⟨by decide +kernel, rfl, sg_inGT (List.mem_of_getElem? (i := 19) (by decide +kernel)) rfl, cw_Z_item, ⟨by decide +kernel, by decide +kernel, by decide +kernel⟩, by decide⟩
theorem cv_Z_item : sg_CV m_Z_item 2 := ⟨cy_Z_item, sg_inGT (List.mem_of_getElem? (i := 683) (by decide +kernel)) rfl, sg_inGT (List.mem_of_getElem? (i := 684) (by decide +kernel)) rfl⟩
def m_Z_lengthOf : SgY := (6, yX6_lengthOf, cX6_lengthOf, 2, some .int)
set_option maxRecDepth 100000 in
theorem cw_Z_lengthOf : Cond.code m_Z_lengthOf.2.1 m_Z_lengthOf.2.2.1 m_Z_lengthOf.2.2.2.1 m_Z_lengthOf.2.2.2.2 ∈ sg_GT := sg_inGT (List.mem_of_getElem? (i := 681) rfl) rfl
theorem cy_Z_lengthOf : sg_CY m_Z_lengthOf 1 := ⟨by decide +kernel, rfl, sg_inGT (List.mem_of_getElem? (i := 19) (by decide +kernel)) rfl, cw_Z_lengthOf, ⟨by decide +kernel, by decide +kernel, by decide +kernel⟩, by decide⟩
theorem cv_Z_lengthOf : sg_CV m_Z_lengthOf 1 := ⟨cy_Z_lengthOf, sg_inGT (List.mem_of_getElem? (i := 679) (by decide +kernel)) rfl, sg_inGT (List.mem_of_getElem? (i := 680) (by decide +kernel)) rfl⟩
def m_Z_make : SgY := (6, yX6_make, cX6_make, 4, some .int)
set_option maxRecDepth 100000 in
theorem cw_Z_make : Cond.code m_Z_make.2.1 m_Z_make.2.2.1 m_Z_make.2.2.2.1 m_Z_make.2.2.2.2 ∈ sg_GT := sg_inGT (List.mem_of_getElem? (i := 877) rfl) rfl
theorem cy_Z_make : sg_CY m_Z_make 3 := ⟨by decide +kernel, rfl, sg_inGT (List.mem_of_getElem? (i := 19) (by decide +kernel)) rfl, cw_Z_make, ⟨by decide +kernel, by decide +kernel, by decide +kernel⟩, by decide⟩
theorem cv_Z_make : sg_CV m_Z_make 3 := ⟨cy_Z_make, sg_inGT (List.mem_of_getElem? (i := 875) (by decide +kernel)) rfl, sg_inGT (List.mem_of_getElem? (i := 876) (by decide +kernel)) rfl⟩
def m_Z_move : SgY := (6, yX6_move, cX6_move, 6, some .int)
set_option maxRecDepth 100000 in
theorem cw_Z_move : Cond.code m_Z_move.2.1 m_Z_move.2.2.1 m_Z_move.2.2.2.1 m_Z_move.2.2.2.2 ∈ sg_GT := sg_inGT (List.mem_of_getElem? (i := 911) rfl) rfl
theorem cy_Z_move : sg_CY m_Z_move 5 := ⟨by decide +kernel, rfl, sg_inGT (List.mem_of_getElem? (i := 19) (by decide +kernel)) rfl, cw_Z_move, ⟨by decide +kernel, by decide +kernel, by decide +kernel⟩, by decide⟩
theorem cv_Z_move : sg_CV m_Z_move 5 := ⟨cy_Z_move, sg_inGT (List.mem_of_getElem? (i := 909) (by decide +kernel)) rfl, sg_inGT (List.mem_of_getElem? (i := 910) (by decide +kernel)) rfl⟩
def m_Z_put : SgY := (6, yX6_put, cX6_put, 4, none)
set_option maxRecDepth 100000 in
theorem cw_Z_put : Cond.code m_Z_put.2.1 m_Z_put.2.2.1 m_Z_put.2.2.2.1 m_Z_put.2.2.2.2 ∈ sg_GT := sg_inGT (List.mem_of_getElem? (i := 898) rfl) rfl
theorem cy_Z_put : sg_CY m_Z_put 3 := ⟨by decide +kernel, rfl, sg_inGT (List.mem_of_getElem? (i := 19) (by decide +kernel)) rfl, cw_Z_put, ⟨by decide +kernel, by decide +kernel, by decide +kernel⟩, by decide⟩
theorem cv_Z_put : sg_CV m_Z_put 3 := ⟨cy_Z_put, sg_inGT (List.mem_of_getElem? (i := 896) (by decide +kernel)) rfl, sg_inGT (List.mem_of_getElem? (i := 897) (by decide +kernel)) rfl⟩
def m_Z_refusalOf : SgY := (6, yX6_refusalOf, cX6_refusalOf, 2, some .int)
set_option maxRecDepth 100000 in
theorem cw_Z_refusalOf : Cond.code m_Z_refusalOf.2.1 m_Z_refusalOf.2.2.1 m_Z_refusalOf.2.2.2.1 m_Z_refusalOf.2.2.2.2 ∈ sg_GT := sg_inGT (List.mem_of_getElem? (i := 672) rfl) rfl
theorem cy_Z_refusalOf : sg_CY m_Z_refusalOf 1 := ⟨by decide +kernel, rfl, sg_inGT (List.mem_of_getElem? (i := 19) (by decide +kernel)) rfl, cw_Z_refusalOf, ⟨by decide +kernel, by decide +kernel, by decide +kernel⟩, by decide⟩
theorem cv_Z_refusalOf : sg_CV m_Z_refusalOf 1 := ⟨cy_Z_refusalOf, sg_inGT (List.mem_of_getElem? (i := 670) (by decide +kernel)) rfl, sg_inGT (List.mem_of_getElem? (i := 671) (by decide +kernel)) rfl⟩
def m_Z_refusalOfItem : SgY := (6, yX6_refusalOfItem, cX6_refusalOfItem, 4, some .int)
set_option maxRecDepth 100000 in
theorem cw_Z_refusalOfItem : Cond.code m_Z_refusalOfItem.2.1 m_Z_refusalOfItem.2.2.1 m_Z_refusalOfItem.2.2.2.1 m_Z_refusalOfItem.2.2.2.2 ∈ sg_GT := sg_inGT (List.mem_of_getElem? (i := 894) rfl) rfl
theorem cy_Z_refusalOfItem : sg_CY m_Z_refusalOfItem 3 := ⟨by decide +kernel, rfl, sg_inGT (List.mem_of_getElem? (i := 19) (by decide +kernel)) rfl, cw_Z_refusalOfItem, ⟨by decide +kernel, by decide +kernel, by decide +kernel⟩, by decide⟩
theorem cv_Z_refusalOfItem : sg_CV m_Z_refusalOfItem 3 := ⟨cy_Z_refusalOfItem, sg_inGT (List.mem_of_getElem? (i := 892) (by decide +kernel)) rfl, sg_inGT (List.mem_of_getElem? (i := 893) (by decide +kernel)) rfl⟩
theorem ml_4_60 : sg_ML 4 60 m_K_tellAnew := sg_inGT (List.mem_of_getElem? (i := 233) (by decide +kernel)) rfl
theorem ml_4_63 : sg_ML 4 63 m_W_loadPosts := sg_inGT (List.mem_of_getElem? (i := 237) (by decide +kernel)) rfl
theorem ml_8_33 : sg_ML 8 33 m_T_things := sg_inGT (List.mem_of_getElem? (i := 241) (by decide +kernel)) rfl
theorem ml_7_36 : sg_ML 7 36 m_T_firstFault := sg_inGT (List.mem_of_getElem? (i := 245) (by decide +kernel)) rfl
theorem ml_7_26 : sg_ML 7 26 m_T_signs := sg_inGT (List.mem_of_getElem? (i := 249) (by decide +kernel)) rfl
theorem ml_7_44 : sg_ML 7 44 m_T_signsOfPost := sg_inGT (List.mem_of_getElem? (i := 253) (by decide +kernel)) rfl
theorem ml_7_47 : sg_ML 7 47 m_T_signsOfPerson := sg_inGT (List.mem_of_getElem? (i := 259) (by decide +kernel)) rfl
theorem ml_7_30 : sg_ML 7 30 m_S_indexOf1 := sg_inGT (List.mem_of_getElem? (i := 265) (by decide +kernel)) rfl
theorem ml_20_633 : sg_ML 20 633 m_S_indexOf2 := sg_inGT (List.mem_of_getElem? (i := 269) (by decide +kernel)) rfl
theorem ml_20_492 : sg_ML 20 492 m_S_isLatin1 := sg_inGT (List.mem_of_getElem? (i := 273) (by decide +kernel)) rfl
theorem ml_20_505 : sg_ML 20 505 m_S_length := sg_inGT (List.mem_of_getElem? (i := 279) (by decide +kernel)) rfl
theorem ml_20_335 : sg_ML 20 335 m_S_coder := sg_inGT (List.mem_of_getElem? (i := 283) (by decide +kernel)) rfl
theorem ml_20_637 : sg_ML 20 637 m_L_indexOf := sg_inGT (List.mem_of_getElem? (i := 287) (by decide +kernel)) rfl
theorem ml_21_88 : sg_ML 21 88 m_L_canEncode := sg_inGT (List.mem_of_getElem? (i := 290) (by decide +kernel)) rfl
theorem mx_21_92 : Cond.methodLink (sg_cn 21) 92 Lib.Math.max.name ∈ sg_GT := sg_inGT (List.mem_of_getElem? (i := 293) (by decide +kernel)) rfl
theorem mx_21_38 : Cond.methodLink (sg_cn 21) 38 Lib.Math.min.name ∈ sg_GT := sg_inGT (List.mem_of_getElem? (i := 296) (by decide +kernel)) rfl
theorem ml_21_95 : sg_ML 21 95 m_L_indexOfChar := sg_inGT (List.mem_of_getElem? (i := 299) (by decide +kernel)) rfl
theorem mx_8_39 : Cond.methodLink (sg_cn 8) 39 Lib.Math.min.name ∈ sg_GT := sg_inGT (List.mem_of_getElem? (i := 351) (by decide +kernel)) rfl
theorem ml_8_49 : sg_ML 8 49 m_T_number := sg_inGT (List.mem_of_getElem? (i := 352) (by decide +kernel)) rfl
theorem ml_8_55 : sg_ML 8 55 m_W_hearersByDistance := sg_inGT (List.mem_of_getElem? (i := 361) (by decide +kernel)) rfl
theorem mx_8_61 : Cond.methodLink (sg_cn 8) 61 Lib.Math.abs.name ∈ sg_GT := sg_inGT (List.mem_of_getElem? (i := 365) (by decide +kernel)) rfl
theorem ml_4_67 : sg_ML 4 67 m_W_loadPeople := sg_inGT (List.mem_of_getElem? (i := 368) (by decide +kernel)) rfl
theorem ml_4_70 : sg_ML 4 70 m_K_clearWeather := sg_inGT (List.mem_of_getElem? (i := 372) (by decide +kernel)) rfl
theorem ml_4_82 : sg_ML 4 82 m_E_everyBit := sg_inGT (List.mem_of_getElem? (i := 376) (by decide +kernel)) rfl
theorem ml_4_86 : sg_ML 4 86 m_Y_load := sg_inGT (List.mem_of_getElem? (i := 380) (by decide +kernel)) rfl
theorem ml_9_44 : sg_ML 9 44 m_Y_add := sg_inGT (List.mem_of_getElem? (i := 388) (by decide +kernel)) rfl
theorem ml_4_73 : sg_ML 4 73 m_A_fill := sg_inGT (List.mem_of_getElem? (i := 392) (by decide +kernel)) rfl
theorem ml_4_79 : sg_ML 4 79 m_D_pass := sg_inGT (List.mem_of_getElem? (i := 395) (by decide +kernel)) rfl
theorem ml_1_50 : sg_ML 1 50 m_D_begin := sg_inGT (List.mem_of_getElem? (i := 399) (by decide +kernel)) rfl
theorem ml_1_80 : sg_ML 1 80 m_A_fill := sg_inGT (List.mem_of_getElem? (i := 403) (by decide +kernel)) rfl
theorem ml_1_53 : sg_ML 1 53 m_D_walk := sg_inGT (List.mem_of_getElem? (i := 404) (by decide +kernel)) rfl
theorem ml_1_57 : sg_ML 1 57 m_D_sneeze := sg_inGT (List.mem_of_getElem? (i := 409) (by decide +kernel)) rfl
theorem ml_1_117 : sg_ML 1 117 m_D_divides := sg_inGT (List.mem_of_getElem? (i := 414) (by decide +kernel)) rfl
theorem ml_1_60 : sg_ML 1 60 m_D_changeGuard := sg_inGT (List.mem_of_getElem? (i := 417) (by decide +kernel)) rfl
theorem ml_1_126 : sg_ML 1 126 m_W_hearersOf := sg_inGT (List.mem_of_getElem? (i := 421) (by decide +kernel)) rfl
theorem ml_1_130 : sg_ML 1 130 m_I_bitCount := sg_inGT (List.mem_of_getElem? (i := 425) (by decide +kernel)) rfl
theorem ml_1_63 : sg_ML 1 63 m_D_stand := sg_inGT (List.mem_of_getElem? (i := 431) (by decide +kernel)) rfl
theorem ml_1_66 : sg_ML 1 66 m_D_spreadColds := sg_inGT (List.mem_of_getElem? (i := 435) (by decide +kernel)) rfl
theorem ml_1_139 : sg_ML 1 139 m_D_othersInCellOf := sg_inGT (List.mem_of_getElem? (i := 439) (by decide +kernel)) rfl
theorem ml_6_23 : sg_ML 6 23 m_A_fill := sg_inGT (List.mem_of_getElem? (i := 567) (by decide +kernel)) rfl
theorem ml_30_13 : sg_ML 30 13 m_G_type := sg_inGT (List.mem_of_getElem? (i := 598) (by decide +kernel)) rfl
theorem ml_10_46 : sg_ML 10 46 m_G_isBelow := sg_inGT (List.mem_of_getElem? (i := 602) (by decide +kernel)) rfl
theorem ml_10_50 : sg_ML 10 50 m_K_textOf := sg_inGT (List.mem_of_getElem? (i := 603) (by decide +kernel)) rfl
theorem ml_10_54 : sg_ML 10 54 m_T_add := sg_inGT (List.mem_of_getElem? (i := 607) (by decide +kernel)) rfl
theorem ml_10_60 : sg_ML 10 60 m_K_tellAnew := sg_inGT (List.mem_of_getElem? (i := 611) (by decide +kernel)) rfl
theorem ml_30_18 : sg_ML 30 18 m_G_wipe := sg_inGT (List.mem_of_getElem? (i := 612) (by decide +kernel)) rfl
theorem ml_10_63 : sg_ML 10 63 m_T_clear := sg_inGT (List.mem_of_getElem? (i := 616) (by decide +kernel)) rfl
theorem ml_30_23 : sg_ML 30 23 m_G_undo := sg_inGT (List.mem_of_getElem? (i := 620) (by decide +kernel)) rfl
theorem ml_10_67 : sg_ML 10 67 m_T_dropLast := sg_inGT (List.mem_of_getElem? (i := 624) (by decide +kernel)) rfl
theorem ml_30_27 : sg_ML 30 27 m_G_fault := sg_inGT (List.mem_of_getElem? (i := 628) (by decide +kernel)) rfl
theorem ml_10_70 : sg_ML 10 70 m_T_firstFault := sg_inGT (List.mem_of_getElem? (i := 632) (by decide +kernel)) rfl
theorem ml_30_31 : sg_ML 30 31 m_G_post := sg_inGT (List.mem_of_getElem? (i := 633) (by decide +kernel)) rfl
theorem ml_10_73 : sg_ML 10 73 m_G_isPost := sg_inGT (List.mem_of_getElem? (i := 637) (by decide +kernel)) rfl
theorem ml_30_35 : sg_ML 30 35 m_G_person := sg_inGT (List.mem_of_getElem? (i := 641) (by decide +kernel)) rfl
theorem ml_10_90 : sg_ML 10 90 m_G_isPerson := sg_inGT (List.mem_of_getElem? (i := 645) (by decide +kernel)) rfl
theorem ml_30_39 : sg_ML 30 39 m_G_event := sg_inGT (List.mem_of_getElem? (i := 649) (by decide +kernel)) rfl
theorem ml_10_105 : sg_ML 10 105 m_E_mayBe := sg_inGT (List.mem_of_getElem? (i := 653) (by decide +kernel)) rfl
theorem ml_10_115 : sg_ML 10 115 m_E_add := sg_inGT (List.mem_of_getElem? (i := 657) (by decide +kernel)) rfl
theorem ml_30_44 : sg_ML 30 44 m_G_back := sg_inGT (List.mem_of_getElem? (i := 661) (by decide +kernel)) rfl
theorem ml_30_49 : sg_ML 30 49 m_G_read := sg_inGT (List.mem_of_getElem? (i := 665) (by decide +kernel)) rfl
theorem ml_10_120 : sg_ML 10 120 m_Z_refusalOf := sg_inGT (List.mem_of_getElem? (i := 669) (by decide +kernel)) rfl
theorem ml_6_33 : sg_ML 6 33 m_Z_found := sg_inGT (List.mem_of_getElem? (i := 674) (by decide +kernel)) rfl
theorem ml_10_123 : sg_ML 10 123 m_Z_lengthOf := sg_inGT (List.mem_of_getElem? (i := 678) (by decide +kernel)) rfl
theorem ml_10_126 : sg_ML 10 126 m_Z_item := sg_inGT (List.mem_of_getElem? (i := 682) (by decide +kernel)) rfl
theorem ml_6_50 : sg_ML 6 50 m_Z_lengthOf := sg_inGT (List.mem_of_getElem? (i := 686) (by decide +kernel)) rfl
theorem ml_30_53 : sg_ML 30 53 m_G_at := sg_inGT (List.mem_of_getElem? (i := 687) (by decide +kernel)) rfl
theorem ml_10_140 : sg_ML 10 140 m_G_timesOfBit := sg_inGT (List.mem_of_getElem? (i := 691) (by decide +kernel)) rfl
theorem ml_30_57 : sg_ML 30 57 m_G_stood := sg_inGT (List.mem_of_getElem? (i := 694) (by decide +kernel)) rfl
theorem ml_10_151 : sg_ML 10 151 m_D_changerOf := sg_inGT (List.mem_of_getElem? (i := 698) (by decide +kernel)) rfl
theorem ml_30_61 : sg_ML 30 61 m_G_changes := sg_inGT (List.mem_of_getElem? (i := 702) (by decide +kernel)) rfl
theorem ml_30_65 : sg_ML 30 65 m_G_forgotten := sg_inGT (List.mem_of_getElem? (i := 706) (by decide +kernel)) rfl
theorem ml_30_69 : sg_ML 30 69 m_G_longest := sg_inGT (List.mem_of_getElem? (i := 710) (by decide +kernel)) rfl
theorem ml_30_73 : sg_ML 30 73 m_G_all := sg_inGT (List.mem_of_getElem? (i := 714) (by decide +kernel)) rfl
theorem ml_30_77 : sg_ML 30 77 m_G_busy := sg_inGT (List.mem_of_getElem? (i := 718) (by decide +kernel)) rfl
theorem ml_10_169 : sg_ML 10 169 m_D_busiest := sg_inGT (List.mem_of_getElem? (i := 722) (by decide +kernel)) rfl
theorem ml_30_81 : sg_ML 30 81 m_G_quiet := sg_inGT (List.mem_of_getElem? (i := 726) (by decide +kernel)) rfl
theorem ml_10_172 : sg_ML 10 172 m_D_silent := sg_inGT (List.mem_of_getElem? (i := 730) (by decide +kernel)) rfl
theorem ml_30_85 : sg_ML 30 85 m_G_stroll := sg_inGT (List.mem_of_getElem? (i := 734) (by decide +kernel)) rfl
theorem ml_10_175 : sg_ML 10 175 m_P_planStroll := sg_inGT (List.mem_of_getElem? (i := 738) (by decide +kernel)) rfl
theorem ml_5_41 : sg_ML 5 41 m_D_pass := sg_inGT (List.mem_of_getElem? (i := 742) (by decide +kernel)) rfl
theorem ml_30_89 : sg_ML 30 89 m_G_dust := sg_inGT (List.mem_of_getElem? (i := 743) (by decide +kernel)) rfl
theorem ml_10_185 : sg_ML 10 185 m_P_planDust := sg_inGT (List.mem_of_getElem? (i := 747) (by decide +kernel)) rfl
theorem ml_30_93 : sg_ML 30 93 m_G_hush := sg_inGT (List.mem_of_getElem? (i := 751) (by decide +kernel)) rfl
theorem ml_10_188 : sg_ML 10 188 m_P_planHush := sg_inGT (List.mem_of_getElem? (i := 755) (by decide +kernel)) rfl
theorem ml_30_97 : sg_ML 30 97 m_G_spare := sg_inGT (List.mem_of_getElem? (i := 759) (by decide +kernel)) rfl
theorem ml_10_191 : sg_ML 10 191 m_P_planSpare := sg_inGT (List.mem_of_getElem? (i := 763) (by decide +kernel)) rfl
theorem ml_5_67 : sg_ML 5 67 m_P_setSpare := sg_inGT (List.mem_of_getElem? (i := 767) (by decide +kernel)) rfl
theorem ml_5_81 : sg_ML 5 81 m_E_everyBit := sg_inGT (List.mem_of_getElem? (i := 771) (by decide +kernel)) rfl
theorem ml_5_89 : sg_ML 5 89 m_K_forgottenWith := sg_inGT (List.mem_of_getElem? (i := 772) (by decide +kernel)) rfl
theorem ml_30_101 : sg_ML 30 101 m_G_seen := sg_inGT (List.mem_of_getElem? (i := 777) (by decide +kernel)) rfl
theorem ml_10_200 : sg_ML 10 200 m_H_see := sg_inGT (List.mem_of_getElem? (i := 781) (by decide +kernel)) rfl
theorem ml_30_105 : sg_ML 30 105 m_G_forget := sg_inGT (List.mem_of_getElem? (i := 785) (by decide +kernel)) rfl
theorem ml_30_109 : sg_ML 30 109 m_G_never := sg_inGT (List.mem_of_getElem? (i := 789) (by decide +kernel)) rfl
theorem ml_10_207 : sg_ML 10 207 m_H_needless := sg_inGT (List.mem_of_getElem? (i := 793) (by decide +kernel)) rfl
theorem ml_3_44 : sg_ML 3 44 m_E_everyBit := sg_inGT (List.mem_of_getElem? (i := 797) (by decide +kernel)) rfl
theorem ml_3_48 : sg_ML 3 48 m_K_supposeEvents := sg_inGT (List.mem_of_getElem? (i := 798) (by decide +kernel)) rfl
theorem ml_3_52 : sg_ML 3 52 m_H_comesOutSo := sg_inGT (List.mem_of_getElem? (i := 802) (by decide +kernel)) rfl
theorem ml_30_113 : sg_ML 30 113 m_G_was := sg_inGT (List.mem_of_getElem? (i := 806) (by decide +kernel)) rfl
theorem ml_10_210 : sg_ML 10 210 m_H_sortsOf := sg_inGT (List.mem_of_getElem? (i := 810) (by decide +kernel)) rfl
theorem ml_3_69 : sg_ML 3 69 m_D_pass := sg_inGT (List.mem_of_getElem? (i := 814) (by decide +kernel)) rfl
theorem ml_10_213 : sg_ML 10 213 m_H_coldsOf := sg_inGT (List.mem_of_getElem? (i := 815) (by decide +kernel)) rfl
theorem ml_30_117 : sg_ML 30 117 m_G_ask := sg_inGT (List.mem_of_getElem? (i := 822) (by decide +kernel)) rfl
theorem ml_10_216 : sg_ML 10 216 m_H_hourToAsk := sg_inGT (List.mem_of_getElem? (i := 826) (by decide +kernel)) rfl
theorem ml_3_86 : sg_ML 3 86 m_H_coldsOf := sg_inGT (List.mem_of_getElem? (i := 830) (by decide +kernel)) rfl
theorem ml_3_90 : sg_ML 3 90 m_H_mostAlike := sg_inGT (List.mem_of_getElem? (i := 831) (by decide +kernel)) rfl
theorem mx_3_98 : Cond.methodLink (sg_cn 3) 98 Lib.Math.max.name ∈ sg_GT := sg_inGT (List.mem_of_getElem? (i := 836) (by decide +kernel)) rfl
theorem ml_30_121 : sg_ML 30 121 m_G_chance := sg_inGT (List.mem_of_getElem? (i := 837) (by decide +kernel)) rfl
theorem ml_10_223 : sg_ML 10 223 m_C_fraction := sg_inGT (List.mem_of_getElem? (i := 842) (by decide +kernel)) rfl
theorem ml_0_34 : sg_ML 0 34 m_C_weigh := sg_inGT (List.mem_of_getElem? (i := 846) (by decide +kernel)) rfl
theorem ml_0_38 : sg_ML 0 38 m_E_everyBit := sg_inGT (List.mem_of_getElem? (i := 850) (by decide +kernel)) rfl
theorem ml_0_42 : sg_ML 0 42 m_I_bitCount := sg_inGT (List.mem_of_getElem? (i := 851) (by decide +kernel)) rfl
theorem ml_0_48 : sg_ML 0 48 m_K_forgottenWith := sg_inGT (List.mem_of_getElem? (i := 852) (by decide +kernel)) rfl
theorem ml_30_126 : sg_ML 30 126 m_G_decades := sg_inGT (List.mem_of_getElem? (i := 854) (by decide +kernel)) rfl
theorem ml_10_227 : sg_ML 10 227 m_C_dayByLots := sg_inGT (List.mem_of_getElem? (i := 858) (by decide +kernel)) rfl
theorem ml_0_58 : sg_ML 0 58 m_C_lotOf := sg_inGT (List.mem_of_getElem? (i := 862) (by decide +kernel)) rfl
theorem ml_0_61 : sg_ML 0 61 m_E_add := sg_inGT (List.mem_of_getElem? (i := 867) (by decide +kernel)) rfl
theorem ml_0_65 : sg_ML 0 65 m_K_supposeEvents := sg_inGT (List.mem_of_getElem? (i := 868) (by decide +kernel)) rfl
theorem ml_10_231 : sg_ML 10 231 m_I_bitCount := sg_inGT (List.mem_of_getElem? (i := 869) (by decide +kernel)) rfl
theorem ml_30_130 : sg_ML 30 130 m_G_sheet := sg_inGT (List.mem_of_getElem? (i := 870) (by decide +kernel)) rfl
theorem ml_10_236 : sg_ML 10 236 m_Z_make := sg_inGT (List.mem_of_getElem? (i := 874) (by decide +kernel)) rfl
theorem ml_30_134 : sg_ML 30 134 m_G_lose := sg_inGT (List.mem_of_getElem? (i := 878) (by decide +kernel)) rfl
theorem ml_10_239 : sg_ML 10 239 m_Z_drop := sg_inGT (List.mem_of_getElem? (i := 882) (by decide +kernel)) rfl
theorem ml_6_37 : sg_ML 6 37 m_Z_refusalOf := sg_inGT (List.mem_of_getElem? (i := 886) (by decide +kernel)) rfl
theorem ml_30_138 : sg_ML 30 138 m_G_lay := sg_inGT (List.mem_of_getElem? (i := 887) (by decide +kernel)) rfl
theorem ml_10_242 : sg_ML 10 242 m_Z_refusalOfItem := sg_inGT (List.mem_of_getElem? (i := 891) (by decide +kernel)) rfl
theorem ml_10_245 : sg_ML 10 245 m_Z_put := sg_inGT (List.mem_of_getElem? (i := 895) (by decide +kernel)) rfl
theorem ml_30_143 : sg_ML 30 143 m_G_get := sg_inGT (List.mem_of_getElem? (i := 899) (by decide +kernel)) rfl
theorem ml_30_147 : sg_ML 30 147 m_G_copy := sg_inGT (List.mem_of_getElem? (i := 904) (by decide +kernel)) rfl
theorem ml_10_250 : sg_ML 10 250 m_Z_move := sg_inGT (List.mem_of_getElem? (i := 908) (by decide +kernel)) rfl
theorem ml_6_40 : sg_ML 6 40 m_Z_hasRoom := sg_inGT (List.mem_of_getElem? (i := 912) (by decide +kernel)) rfl
theorem ml_30_152 : sg_ML 30 152 m_G_write := sg_inGT (List.mem_of_getElem? (i := 916) (by decide +kernel)) rfl
theorem mx_10_254 : Cond.methodLink (sg_cn 10) 254 Lib.Math.min.name ∈ sg_GT := sg_inGT (List.mem_of_getElem? (i := 920) (by decide +kernel)) rfl
theorem ml_30_156 : sg_ML 30 156 m_G_count := sg_inGT (List.mem_of_getElem? (i := 921) (by decide +kernel)) rfl
theorem ml_30_160 : sg_ML 30 160 m_G_digest := sg_inGT (List.mem_of_getElem? (i := 925) (by decide +kernel)) rfl
theorem ml_10_282 : sg_ML 10 282 m_G_count := sg_inGT (List.mem_of_getElem? (i := 931) (by decide +kernel)) rfl
theorem ml_10_285 : sg_ML 10 285 m_G_fault := sg_inGT (List.mem_of_getElem? (i := 932) (by decide +kernel)) rfl
theorem ml_10_288 : sg_ML 10 288 m_G_digestPost := sg_inGT (List.mem_of_getElem? (i := 933) (by decide +kernel)) rfl
theorem ml_10_301 : sg_ML 10 301 m_G_post := sg_inGT (List.mem_of_getElem? (i := 937) (by decide +kernel)) rfl
theorem ml_10_304 : sg_ML 10 304 m_G_digestHour := sg_inGT (List.mem_of_getElem? (i := 938) (by decide +kernel)) rfl
theorem ml_10_307 : sg_ML 10 307 m_G_stood := sg_inGT (List.mem_of_getElem? (i := 941) (by decide +kernel)) rfl
theorem ml_10_292 : sg_ML 10 292 m_G_digestPerson := sg_inGT (List.mem_of_getElem? (i := 942) (by decide +kernel)) rfl
theorem ml_10_309 : sg_ML 10 309 m_G_person := sg_inGT (List.mem_of_getElem? (i := 946) (by decide +kernel)) rfl
theorem ml_10_312 : sg_ML 10 312 m_G_at := sg_inGT (List.mem_of_getElem? (i := 947) (by decide +kernel)) rfl
theorem ml_10_315 : sg_ML 10 315 m_G_stroll := sg_inGT (List.mem_of_getElem? (i := 948) (by decide +kernel)) rfl
theorem ml_10_318 : sg_ML 10 318 m_G_was := sg_inGT (List.mem_of_getElem? (i := 949) (by decide +kernel)) rfl
theorem ml_10_295 : sg_ML 10 295 m_G_changes := sg_inGT (List.mem_of_getElem? (i := 950) (by decide +kernel)) rfl
theorem ml_10_297 : sg_ML 10 297 m_G_digestRest := sg_inGT (List.mem_of_getElem? (i := 951) (by decide +kernel)) rfl
theorem ml_10_321 : sg_ML 10 321 m_G_forgotten := sg_inGT (List.mem_of_getElem? (i := 955) (by decide +kernel)) rfl
theorem ml_10_323 : sg_ML 10 323 m_G_longest := sg_inGT (List.mem_of_getElem? (i := 956) (by decide +kernel)) rfl
theorem ml_10_325 : sg_ML 10 325 m_G_busy := sg_inGT (List.mem_of_getElem? (i := 957) (by decide +kernel)) rfl
theorem ml_10_328 : sg_ML 10 328 m_G_quiet := sg_inGT (List.mem_of_getElem? (i := 958) (by decide +kernel)) rfl
theorem ml_10_331 : sg_ML 10 331 m_G_dust := sg_inGT (List.mem_of_getElem? (i := 959) (by decide +kernel)) rfl
theorem ml_10_334 : sg_ML 10 334 m_G_hush := sg_inGT (List.mem_of_getElem? (i := 960) (by decide +kernel)) rfl
theorem ml_10_337 : sg_ML 10 337 m_G_spare := sg_inGT (List.mem_of_getElem? (i := 961) (by decide +kernel)) rfl
theorem ml_10_340 : sg_ML 10 340 m_G_never := sg_inGT (List.mem_of_getElem? (i := 962) (by decide +kernel)) rfl
theorem ml_10_343 : sg_ML 10 343 m_G_decades := sg_inGT (List.mem_of_getElem? (i := 963) (by decide +kernel)) rfl
theorem ml_30_133 : sg_ML 30 133 m_M_sheet := sg_inGT (List.mem_of_getElem? (i := 1082) (by decide +kernel)) rfl
theorem ml_11_107 : sg_ML 11 107 m_M_isSheet := sg_inGT (List.mem_of_getElem? (i := 1086) (by decide +kernel)) rfl
theorem ml_11_98 : sg_ML 11 98 m_M_in := sg_inGT (List.mem_of_getElem? (i := 1090) (by decide +kernel)) rfl
theorem ml_11_113 : sg_ML 11 113 m_M_finds := sg_inGT (List.mem_of_getElem? (i := 1094) (by decide +kernel)) rfl
theorem ml_30_137 : sg_ML 30 137 m_M_lose := sg_inGT (List.mem_of_getElem? (i := 1098) (by decide +kernel)) rfl
theorem ml_30_142 : sg_ML 30 142 m_M_lay := sg_inGT (List.mem_of_getElem? (i := 1102) (by decide +kernel)) rfl
theorem ml_11_117 : sg_ML 11 117 m_M_lacks := sg_inGT (List.mem_of_getElem? (i := 1106) (by decide +kernel)) rfl
theorem ml_11_121 : sg_ML 11 121 m_M_cut := sg_inGT (List.mem_of_getElem? (i := 1110) (by decide +kernel)) rfl
theorem ml_30_146 : sg_ML 30 146 m_M_get := sg_inGT (List.mem_of_getElem? (i := 1113) (by decide +kernel)) rfl
theorem ml_30_151 : sg_ML 30 151 m_M_copy := sg_inGT (List.mem_of_getElem? (i := 1118) (by decide +kernel)) rfl
theorem ml_30_17 : sg_ML 30 17 m_M_type := sg_inGT (List.mem_of_getElem? (i := 1122) (by decide +kernel)) rfl
theorem ml_11_126 : sg_ML 11 126 m_M_isTwo := sg_inGT (List.mem_of_getElem? (i := 1126) (by decide +kernel)) rfl
theorem ml_30_22 : sg_ML 30 22 m_M_wipe := sg_inGT (List.mem_of_getElem? (i := 1130) (by decide +kernel)) rfl
theorem ml_30_26 : sg_ML 30 26 m_M_undo := sg_inGT (List.mem_of_getElem? (i := 1134) (by decide +kernel)) rfl
theorem ml_30_30 : sg_ML 30 30 m_M_fault := sg_inGT (List.mem_of_getElem? (i := 1138) (by decide +kernel)) rfl
theorem ml_11_153 : sg_ML 11 153 m_M_readsText := sg_inGT (List.mem_of_getElem? (i := 1142) (by decide +kernel)) rfl
theorem ml_11_146 : sg_ML 11 146 m_M_readsPosts := sg_inGT (List.mem_of_getElem? (i := 1146) (by decide +kernel)) rfl
theorem ml_11_137 : sg_ML 11 137 m_M_postOf := sg_inGT (List.mem_of_getElem? (i := 1150) (by decide +kernel)) rfl
theorem ml_11_131 : sg_ML 11 131 m_M_figureOf := sg_inGT (List.mem_of_getElem? (i := 1153) (by decide +kernel)) rfl
theorem ml_11_150 : sg_ML 11 150 m_M_readsPeople := sg_inGT (List.mem_of_getElem? (i := 1156) (by decide +kernel)) rfl
theorem ml_11_143 : sg_ML 11 143 m_M_personOf := sg_inGT (List.mem_of_getElem? (i := 1160) (by decide +kernel)) rfl
theorem ml_30_34 : sg_ML 30 34 m_M_post := sg_inGT (List.mem_of_getElem? (i := 1163) (by decide +kernel)) rfl
theorem ml_11_158 : sg_ML 11 158 m_M_isPost := sg_inGT (List.mem_of_getElem? (i := 1167) (by decide +kernel)) rfl
theorem ml_30_38 : sg_ML 30 38 m_M_person := sg_inGT (List.mem_of_getElem? (i := 1171) (by decide +kernel)) rfl
theorem ml_11_161 : sg_ML 11 161 m_M_isPerson := sg_inGT (List.mem_of_getElem? (i := 1175) (by decide +kernel)) rfl
theorem ml_30_43 : sg_ML 30 43 m_M_event := sg_inGT (List.mem_of_getElem? (i := 1179) (by decide +kernel)) rfl
theorem ml_11_167 : sg_ML 11 167 m_M_isHour := sg_inGT (List.mem_of_getElem? (i := 1183) (by decide +kernel)) rfl
theorem ml_11_172 : sg_ML 11 172 m_M_keeps := sg_inGT (List.mem_of_getElem? (i := 1188) (by decide +kernel)) rfl
theorem ml_30_48 : sg_ML 30 48 m_M_back := sg_inGT (List.mem_of_getElem? (i := 1192) (by decide +kernel)) rfl
theorem ml_30_52 : sg_ML 30 52 m_M_read := sg_inGT (List.mem_of_getElem? (i := 1196) (by decide +kernel)) rfl
theorem ml_11_176 : sg_ML 11 176 m_M_event := sg_inGT (List.mem_of_getElem? (i := 1200) (by decide +kernel)) rfl
theorem ml_30_56 : sg_ML 30 56 m_M_at := sg_inGT (List.mem_of_getElem? (i := 1201) (by decide +kernel)) rfl
theorem ml_11_217 : sg_ML 11 217 m_M_find := sg_inGT (List.mem_of_getElem? (i := 1205) (by decide +kernel)) rfl
theorem ml_11_214 : sg_ML 11 214 m_M_lives := sg_inGT (List.mem_of_getElem? (i := 1209) (by decide +kernel)) rfl
theorem ml_11_211 : sg_ML 11 211 m_M_passes := sg_inGT (List.mem_of_getElem? (i := 1213) (by decide +kernel)) rfl
theorem ml_11_198 : sg_ML 11 198 m_M_goes := sg_inGT (List.mem_of_getElem? (i := 1217) (by decide +kernel)) rfl
theorem ml_11_202 : sg_ML 11 202 m_M_isSneezing := sg_inGT (List.mem_of_getElem? (i := 1221) (by decide +kernel)) rfl
theorem ml_11_191 : sg_ML 11 191 m_M_isTold := sg_inGT (List.mem_of_getElem? (i := 1225) (by decide +kernel)) rfl
theorem ml_11_187 : sg_ML 11 187 m_M_isIn := sg_inGT (List.mem_of_getElem? (i := 1229) (by decide +kernel)) rfl
theorem ml_11_205 : sg_ML 11 205 m_M_heardBy := sg_inGT (List.mem_of_getElem? (i := 1232) (by decide +kernel)) rfl
theorem ml_11_195 : sg_ML 11 195 m_M_apart := sg_inGT (List.mem_of_getElem? (i := 1236) (by decide +kernel)) rfl
theorem ml_11_208 : sg_ML 11 208 m_M_isCaught := sg_inGT (List.mem_of_getElem? (i := 1239) (by decide +kernel)) rfl
theorem ml_11_220 : sg_ML 11 220 m_M_atBy := sg_inGT (List.mem_of_getElem? (i := 1243) (by decide +kernel)) rfl
theorem ml_30_60 : sg_ML 30 60 m_M_stood := sg_inGT (List.mem_of_getElem? (i := 1247) (by decide +kernel)) rfl
theorem ml_11_223 : sg_ML 11 223 m_M_stoodOf := sg_inGT (List.mem_of_getElem? (i := 1251) (by decide +kernel)) rfl
theorem ml_30_64 : sg_ML 30 64 m_M_changes := sg_inGT (List.mem_of_getElem? (i := 1255) (by decide +kernel)) rfl
theorem ml_11_226 : sg_ML 11 226 m_M_changesIn := sg_inGT (List.mem_of_getElem? (i := 1259) (by decide +kernel)) rfl
theorem ml_30_68 : sg_ML 30 68 m_M_forgotten := sg_inGT (List.mem_of_getElem? (i := 1263) (by decide +kernel)) rfl
theorem ml_11_229 : sg_ML 11 229 m_M_forgottenNow := sg_inGT (List.mem_of_getElem? (i := 1267) (by decide +kernel)) rfl
theorem ml_30_72 : sg_ML 30 72 m_M_longest := sg_inGT (List.mem_of_getElem? (i := 1271) (by decide +kernel)) rfl
theorem ml_11_235 : sg_ML 11 235 m_M_longestBy := sg_inGT (List.mem_of_getElem? (i := 1275) (by decide +kernel)) rfl
theorem ml_11_232 : sg_ML 11 232 m_M_greater := sg_inGT (List.mem_of_getElem? (i := 1279) (by decide +kernel)) rfl
theorem ml_30_76 : sg_ML 30 76 m_M_all := sg_inGT (List.mem_of_getElem? (i := 1282) (by decide +kernel)) rfl
theorem ml_11_238 : sg_ML 11 238 m_M_allNow := sg_inGT (List.mem_of_getElem? (i := 1286) (by decide +kernel)) rfl
theorem ml_30_80 : sg_ML 30 80 m_M_busy := sg_inGT (List.mem_of_getElem? (i := 1290) (by decide +kernel)) rfl
theorem ml_11_241 : sg_ML 11 241 m_M_busyNow := sg_inGT (List.mem_of_getElem? (i := 1294) (by decide +kernel)) rfl
theorem ml_30_84 : sg_ML 30 84 m_M_quiet := sg_inGT (List.mem_of_getElem? (i := 1298) (by decide +kernel)) rfl
theorem ml_11_244 : sg_ML 11 244 m_M_quietNow := sg_inGT (List.mem_of_getElem? (i := 1302) (by decide +kernel)) rfl
theorem ml_30_88 : sg_ML 30 88 m_M_stroll := sg_inGT (List.mem_of_getElem? (i := 1306) (by decide +kernel)) rfl
theorem ml_11_250 : sg_ML 11 250 m_M_strollOf := sg_inGT (List.mem_of_getElem? (i := 1310) (by decide +kernel)) rfl
theorem ml_11_247 : sg_ML 11 247 m_M_lesser := sg_inGT (List.mem_of_getElem? (i := 1314) (by decide +kernel)) rfl
theorem ml_30_92 : sg_ML 30 92 m_M_dust := sg_inGT (List.mem_of_getElem? (i := 1317) (by decide +kernel)) rfl
theorem ml_11_253 : sg_ML 11 253 m_M_dustOf := sg_inGT (List.mem_of_getElem? (i := 1321) (by decide +kernel)) rfl
theorem ml_30_96 : sg_ML 30 96 m_M_hush := sg_inGT (List.mem_of_getElem? (i := 1325) (by decide +kernel)) rfl
theorem ml_11_256 : sg_ML 11 256 m_M_hushOf := sg_inGT (List.mem_of_getElem? (i := 1329) (by decide +kernel)) rfl
theorem ml_30_100 : sg_ML 30 100 m_M_spare := sg_inGT (List.mem_of_getElem? (i := 1333) (by decide +kernel)) rfl
theorem ml_11_264 : sg_ML 11 264 m_M_spareBy := sg_inGT (List.mem_of_getElem? (i := 1338) (by decide +kernel)) rfl
theorem ml_11_259 : sg_ML 11 259 m_M_isSpared := sg_inGT (List.mem_of_getElem? (i := 1342) (by decide +kernel)) rfl
theorem ml_30_104 : sg_ML 30 104 m_M_seen := sg_inGT (List.mem_of_getElem? (i := 1346) (by decide +kernel)) rfl
theorem ml_30_108 : sg_ML 30 108 m_M_forget := sg_inGT (List.mem_of_getElem? (i := 1351) (by decide +kernel)) rfl
theorem ml_30_112 : sg_ML 30 112 m_M_never := sg_inGT (List.mem_of_getElem? (i := 1355) (by decide +kernel)) rfl
theorem ml_11_276 : sg_ML 11 276 m_M_neverNow := sg_inGT (List.mem_of_getElem? (i := 1359) (by decide +kernel)) rfl
theorem ml_11_272 : sg_ML 11 272 m_M_isSeen := sg_inGT (List.mem_of_getElem? (i := 1363) (by decide +kernel)) rfl
theorem ml_30_116 : sg_ML 30 116 m_M_was := sg_inGT (List.mem_of_getElem? (i := 1367) (by decide +kernel)) rfl
theorem ml_11_285 : sg_ML 11 285 m_M_wasOf := sg_inGT (List.mem_of_getElem? (i := 1371) (by decide +kernel)) rfl
theorem ml_11_279 : sg_ML 11 279 m_M_sortOf := sg_inGT (List.mem_of_getElem? (i := 1375) (by decide +kernel)) rfl
theorem ml_11_282 : sg_ML 11 282 m_M_coldsOf := sg_inGT (List.mem_of_getElem? (i := 1379) (by decide +kernel)) rfl
theorem ml_30_120 : sg_ML 30 120 m_M_ask := sg_inGT (List.mem_of_getElem? (i := 1383) (by decide +kernel)) rfl
theorem ml_11_291 : sg_ML 11 291 m_M_askOf := sg_inGT (List.mem_of_getElem? (i := 1387) (by decide +kernel)) rfl
theorem ml_11_288 : sg_ML 11 288 m_M_alike := sg_inGT (List.mem_of_getElem? (i := 1391) (by decide +kernel)) rfl
theorem ml_30_125 : sg_ML 30 125 m_M_chance := sg_inGT (List.mem_of_getElem? (i := 1395) (by decide +kernel)) rfl
theorem ml_11_300 : sg_ML 11 300 m_M_chanceOf := sg_inGT (List.mem_of_getElem? (i := 1400) (by decide +kernel)) rfl
theorem ml_11_294 : sg_ML 11 294 m_M_part := sg_inGT (List.mem_of_getElem? (i := 1404) (by decide +kernel)) rfl
theorem ml_11_304 : sg_ML 11 304 m_M_no := sg_inGT (List.mem_of_getElem? (i := 1407) (by decide +kernel)) rfl
theorem ml_30_129 : sg_ML 30 129 m_M_decades := sg_inGT (List.mem_of_getElem? (i := 1411) (by decide +kernel)) rfl
theorem ml_11_320 : sg_ML 11 320 m_M_decadesOf := sg_inGT (List.mem_of_getElem? (i := 1416) (by decide +kernel)) rfl
theorem ml_11_312 : sg_ML 11 312 m_M_lot := sg_inGT (List.mem_of_getElem? (i := 1420) (by decide +kernel)) rfl
theorem ml_11_315 : sg_ML 11 315 m_M_ones := sg_inGT (List.mem_of_getElem? (i := 1425) (by decide +kernel)) rfl
theorem ml_30_155 : sg_ML 30 155 m_M_write := sg_inGT (List.mem_of_getElem? (i := 1428) (by decide +kernel)) rfl
theorem ml_30_159 : sg_ML 30 159 m_M_count := sg_inGT (List.mem_of_getElem? (i := 1432) (by decide +kernel)) rfl
theorem ml_30_164 : sg_ML 30 164 m_M_digest := sg_inGT (List.mem_of_getElem? (i := 1436) (by decide +kernel)) rfl
theorem ml_11_334 : sg_ML 11 334 m_M_count := sg_inGT (List.mem_of_getElem? (i := 1442) (by decide +kernel)) rfl
theorem ml_11_337 : sg_ML 11 337 m_M_tellsPost := sg_inGT (List.mem_of_getElem? (i := 1443) (by decide +kernel)) rfl
theorem ml_11_325 : sg_ML 11 325 m_M_tellsStood := sg_inGT (List.mem_of_getElem? (i := 1447) (by decide +kernel)) rfl
theorem ml_11_341 : sg_ML 11 341 m_M_tellsPerson := sg_inGT (List.mem_of_getElem? (i := 1451) (by decide +kernel)) rfl
theorem ml_11_329 : sg_ML 11 329 m_M_tellsHour := sg_inGT (List.mem_of_getElem? (i := 1455) (by decide +kernel)) rfl
theorem ma_3_80 : Cond.methodLink (sg_cn 3) 80 arraycopyName ∈ sg_GT := sg_inGT (List.mem_of_getElem? (i := 819) (by decide +kernel)) rfl
theorem ma_6_44 : Cond.methodLink (sg_cn 6) 44 arraycopyName ∈ sg_GT := sg_inGT (List.mem_of_getElem? (i := 915) (by decide +kernel)) rfl
theorem ma_nat : Cond.native arraycopyName ∈ sg_GT := sg_inGT (List.mem_of_getElem? (i := 821) (by decide +kernel)) rfl
theorem ma_sta : Cond.static arraycopyName ∈ sg_GT := sg_inGT (List.mem_of_getElem? (i := 820) (by decide +kernel)) rfl
theorem ma_ini : Cond.initialized "java/lang/System" ∈ sg_GT := sg_inGT (List.mem_of_getElem? (i := 21) (by decide +kernel)) rfl
end
section
theorem sg_mc_max : Cond.code Lib.Math.max.name Lib.Math.max.code 2 (some .int) ∈ sg_GT := sg_inGT (List.mem_of_getElem? (i := 295) (by decide +kernel)) rfl
theorem sg_ms_max : Cond.static Lib.Math.max.name ∈ sg_GT := sg_inGT (List.mem_of_getElem? (i := 294) (by decide +kernel)) rfl
theorem sg_mc_min : Cond.code Lib.Math.min.name Lib.Math.min.code 2 (some .int) ∈ sg_GT := sg_inGT (List.mem_of_getElem? (i := 298) (by decide +kernel)) rfl
theorem sg_ms_min : Cond.static Lib.Math.min.name ∈ sg_GT := sg_inGT (List.mem_of_getElem? (i := 297) (by decide +kernel)) rfl
theorem sg_mc_abs : Cond.code Lib.Math.abs.name Lib.Math.abs.code 1 (some .int) ∈ sg_GT := sg_inGT (List.mem_of_getElem? (i := 367) (by decide +kernel)) rfl
theorem sg_ms_abs : Cond.static Lib.Math.abs.name ∈ sg_GT := sg_inGT (List.mem_of_getElem? (i := 366) (by decide +kernel)) rfl
theorem sg_mi : Cond.initialized "java/lang/Math" ∈ sg_GT := sg_inGT (List.mem_of_getElem? (i := 10) (by decide +kernel)) rfl
/-- a truth as an int -/
def sg_bo (p : Prop) [Decidable p] : Int := if p then 1 else 0
theorem sg_bo01 (p : Prop) [Decidable p] : sg_bo p = 0 ∨ sg_bo p = 1 := by
  unfold sg_bo
  by_cases h : p
  · exact Or.inr (if_pos h)
  · exact Or.inl (if_neg h)
theorem sg_bo_t {p : Prop} [Decidable p] (h : p) : sg_bo p = 1 := if_pos h
theorem sg_bo_f {p : Prop} [Decidable p] (h : ¬ p) : sg_bo p = 0 := if_neg h
theorem sg_bif_eq {lo N d : Nat} {y : SgY} {pc : Nat} {L : SgL} {r : SgS} {G : SgM} {Q : Int → SgM → Prop} {p : Prop} [Decidable p] {off : Int} {tgt : Nat} (hd : decode y.2.2.1 pc = .ok (.ifCond .eq off, 3)) (ht : (pc : Int) + off = (tgt : Int)) (h : (p → sg_Wp lo N d y (pc + 3) L r G Q) ∧ (¬ p → sg_Wp lo N d y tgt L r G Q)) : sg_Wp lo N d y pc L ((0, sg_bo p) :: r) G Q := by
  refine sg_if_eq hd ht ⟨fun q => h.2 (fun hp => ?_), fun q => h.1 ?_⟩
  · rw [sg_bo_t hp] at q; cases q
  · exact Decidable.byContradiction (fun hp => q (sg_bo_f hp))
theorem sg_bif_ne {lo N d : Nat} {y : SgY} {pc : Nat} {L : SgL} {r : SgS} {G : SgM} {Q : Int → SgM → Prop} {p : Prop} [Decidable p] {off : Int} {tgt : Nat} (hd : decode y.2.2.1 pc = .ok (.ifCond .ne off, 3)) (ht : (pc : Int) + off = (tgt : Int)) (h : (p → sg_Wp lo N d y tgt L r G Q) ∧ (¬ p → sg_Wp lo N d y (pc + 3) L r G Q)) : sg_Wp lo N d y pc L ((0, sg_bo p) :: r) G Q := by
  refine sg_if_ne hd ht ⟨fun q => h.1 ?_, fun q => h.2 (fun hp => q ?_)⟩
  · exact Decidable.byContradiction (fun hp => q (sg_bo_f hp))
  · rw [sg_bo_t hp]; decide
def sg_mx (x z : Int) : Int := if x < z then z else x
def sg_mn (x z : Int) : Int := if z < x then z else x
def sg_ab (x : Int) : Int := if 0 ≤ x then x else sg_isub 0 x
theorem sg_rl {a : SgA} {r : SgS} {R : Room} {d : Nat} (h : sg_rs r ≤ 8) (hd : 0 < d) (hR : 34 * d ≤ R.locals) : ((r.map (sg_v a)).map fun v => v.category).sum + 13 ≤ R.locals := by
  have e1 := sg_rs_le (a := a) h (g := F0 (default : MethodId) 0 #[] []) rfl
  have e2 : (F0 (default : MethodId) 0 #[] []).monitorRoom = 0 := rfl
  omega
theorem sg_mmax {lo N d : Nat} {y : SgY} {pc : Nat} {L : SgL} {S r : SgS} {G : SgM} {Q : Int → SgM → Prop} {idx : Nat} {x z : Int} (hd : decode y.2.2.1 pc = .ok (.invokestatic idx, 3)) (hm : Cond.methodLink (sg_cn y.1) idx Lib.Math.max.name ∈ sg_GT) (hdd : 0 < d) (hrs : sg_rs r ≤ 8) (hst : S = (0, z) :: (0, x) :: r) (h : sg_Wp lo N d y (pc + 3) L ((0, sg_mx x z) :: r) G Q) : sg_Wp lo N d y pc L S G Q := by
  subst hst
  intro p l e R s m args below meth c D cy a H locs ls hC hH
  have hts := hC.2.2.2.2.2.2.1
  have hz : sg_32 z := sg_hd1 hH.sk
  have hx : sg_32 x := sg_hd1 (sg_tl1 hH.sk)
  have h2 : sg_32 (sg_mx x z) := by unfold sg_mx; split <;> assumption
  have e1 : sg_v a (0, sg_mx x z) = .int (if Int32.ofInt x < Int32.ofInt z then Int32.ofInt z else Int32.ofInt x) := by
    unfold sg_mx
    by_cases q : x < z
    · rw [if_pos q, if_pos ((sg_lt32 hx hz).mpr q)]; rfl
    · rw [if_neg q, if_neg (fun q2 => q ((sg_lt32 hx hz).mp q2))]; rfl
  have k := h p l e R s m args below meth c D cy a H locs ls hC (hH.st (sg_cons (v := (0, sg_mx x z)) h2 (sg_tl1 (sg_tl1 hH.sk))))
  rw [List.map_cons, e1] at k
  exact va_mmax hC.1 hC.2.1 (hC.2.2.1.trans hH.2.2.2.2.1.1.symm) hC.2.2.2.2.2.1 (hts _ hm) (hts _ sg_ms_max) (hts _ sg_mi) (hts _ sg_mc_max) (by have := hC.2.2.2.2.2.2.2.1; omega) (sg_rl hrs hdd hC.2.2.2.2.2.2.2.2.1) (Nat.zero_le _) (Nat.zero_le _) hd k
theorem sg_mmin {lo N d : Nat} {y : SgY} {pc : Nat} {L : SgL} {S r : SgS} {G : SgM} {Q : Int → SgM → Prop} {idx : Nat} {x z : Int} (hd : decode y.2.2.1 pc = .ok (.invokestatic idx, 3)) (hm : Cond.methodLink (sg_cn y.1) idx Lib.Math.min.name ∈ sg_GT) (hdd : 0 < d) (hrs : sg_rs r ≤ 8) (hst : S = (0, z) :: (0, x) :: r) (h : sg_Wp lo N d y (pc + 3) L ((0, sg_mn x z) :: r) G Q) : sg_Wp lo N d y pc L S G Q := by
  subst hst
  intro p l e R s m args below meth c D cy a H locs ls hC hH
  have hts := hC.2.2.2.2.2.2.1
  have hz : sg_32 z := sg_hd1 hH.sk
  have hx : sg_32 x := sg_hd1 (sg_tl1 hH.sk)
  have h2 : sg_32 (sg_mn x z) := by unfold sg_mn; split <;> assumption
  have e1 : sg_v a (0, sg_mn x z) = .int (if Int32.ofInt z < Int32.ofInt x then Int32.ofInt z else Int32.ofInt x) := by
    unfold sg_mn
    by_cases q : z < x
    · rw [if_pos q, if_pos ((sg_lt32 hz hx).mpr q)]; rfl
    · rw [if_neg q, if_neg (fun q2 => q ((sg_lt32 hz hx).mp q2))]; rfl
  have k := h p l e R s m args below meth c D cy a H locs ls hC (hH.st (sg_cons (v := (0, sg_mn x z)) h2 (sg_tl1 (sg_tl1 hH.sk))))
  rw [List.map_cons, e1] at k
  exact va_mmin hC.1 hC.2.1 (hC.2.2.1.trans hH.2.2.2.2.1.1.symm) hC.2.2.2.2.2.1 (hts _ hm) (hts _ sg_ms_min) (hts _ sg_mi) (hts _ sg_mc_min) (by have := hC.2.2.2.2.2.2.2.1; omega) (sg_rl hrs hdd hC.2.2.2.2.2.2.2.2.1) (Nat.zero_le _) (Nat.zero_le _) hd k
theorem sg_mabs {lo N d : Nat} {y : SgY} {pc : Nat} {L : SgL} {S r : SgS} {G : SgM} {Q : Int → SgM → Prop} {idx : Nat} {x : Int} (hd : decode y.2.2.1 pc = .ok (.invokestatic idx, 3)) (hm : Cond.methodLink (sg_cn y.1) idx Lib.Math.abs.name ∈ sg_GT) (hdd : 0 < d) (hrs : sg_rs r ≤ 8) (hst : S = (0, x) :: r) (h : sg_Wp lo N d y (pc + 3) L ((0, sg_ab x) :: r) G Q) : sg_Wp lo N d y pc L S G Q := by
  subst hst
  intro p l e R s m args below meth c D cy a H locs ls hC hH
  have hts := hC.2.2.2.2.2.2.1
  have hx : sg_32 x := sg_hd1 hH.sk
  have i0 : (0 : Int32) ≤ Int32.ofInt x ↔ 0 ≤ x := sg_le32 sg_z32 hx
  have h2 : sg_32 (sg_ab x) := by unfold sg_ab; split; assumption; exact sg_32_of _
  have e1 : sg_v a (0, sg_ab x) = .int (if 0 ≤ Int32.ofInt x then Int32.ofInt x else 0 - Int32.ofInt x) := by
    unfold sg_ab
    by_cases q : 0 ≤ x
    · rw [if_pos q, if_pos (i0.mpr q)]; rfl
    · rw [if_neg q, if_neg (fun q2 => q (i0.mp q2))]
      unfold sg_isub
      rw [sg_vi]
      rfl
  have k := h p l e R s m args below meth c D cy a H locs ls hC (hH.st (sg_cons (v := (0, sg_ab x)) h2 (sg_tl1 hH.sk)))
  rw [List.map_cons, e1] at k
  exact va_mabs hC.1 hC.2.1 (hC.2.2.1.trans hH.2.2.2.2.1.1.symm) hC.2.2.2.2.2.1 (hts _ hm) (hts _ sg_ms_abs) (hts _ sg_mi) (hts _ sg_mc_abs) (by have := hC.2.2.2.2.2.2.2.1; omega) (sg_rl hrs hdd hC.2.2.2.2.2.2.2.2.1) (Nat.zero_le _) (Nat.zero_le _) hd k
/-- System.arraycopy over rows of ints -/
def sg_cp (G : SgM) (c0 sp c1 dp n : Int) : SgM := fun c i => if c = c1 ∧ dp ≤ i ∧ i < dp + n then G c0 (sp + (i - dp)) else G c i
theorem sg_acopy {lo N d : Nat} {y : SgY} {pc : Nat} {L : SgL} {S r : SgS} {G : SgM} {Q : Int → SgM → Prop} {idx : Nat} {n dp sp c1 c0 n0 n1 : Int} (hd : decode y.2.2.1 pc = .ok (.invokestatic idx, 3)) (hm : Cond.methodLink (sg_cn y.1) idx arraycopyName ∈ sg_GT) (h0 : sg_Ce lo N c0 1 n0) (h1 : sg_Ce lo N c1 1 n1) (hd2 : 1 < d) (hrs : sg_rs r ≤ 8) (hst : S = (0, n) :: (0, dp) :: (2, c1) :: (0, sp) :: (2, c0) :: r)
    (hb : 0 ≤ sp ∧ 0 ≤ dp ∧ 0 ≤ n ∧ sp + n ≤ n0 ∧ dp + n ≤ n1) (h : sg_Wp lo N d y (pc + 3) L r (sg_cp G c0 sp c1 dp n) Q) : sg_Wp lo N d y pc L S G Q := by
  subst hst
  intro p l e R s m args below meth c D cy a H locs ls hC hH
  have hts := hC.2.2.2.2.2.2.1
  have hn : sg_32 n := sg_hd1 hH.sk
  have hdp : sg_32 dp := sg_hd1 (sg_tl1 hH.sk)
  have hsp : sg_32 sp := sg_hd1 (sg_tl1 (sg_tl1 (sg_tl1 hH.sk)))
  have hw0 := sg_W_at (cy := cy) (a := a) (G := G) h0.1
  rw [sg_e1 h0.2] at hw0
  have hw1 := sg_W_at (cy := cy) (a := a) (G := G) h1.1
  rw [sg_e1 h1.2] at hw1
  have en := sg_cl hn hb.2.2.1
  have ed := sg_cl hdp hb.2.1
  have es := sg_cl hsp hb.1
  have ng : ∀ x : Int, sg_32 x → 0 ≤ x → ¬ Int32.ofInt x < 0 := fun x hx h0 q => by
    have := (sg_lt32 hx sg_z32).mp q
    omega
  have hl : ((r.map (sg_v a)).map fun v => v.category).sum + (nativeFrameWords "java/lang/System" "arraycopy" 5 + 11) ≤ R.locals := by
    have e1 := sg_rs_le (a := a) hrs (g := F0 m 0 ls []) rfl
    have e2 : (F0 m 0 ls []).monitorRoom = 0 := rfl
    have e3 : nativeFrameWords "java/lang/System" "arraycopy" 5 = 7 := by decide +kernel
    have e4 := hC.2.2.2.2.2.2.2.2.1
    rw [e3]
    omega
  have k4 : (Int32.ofInt sp).toNatClampNeg + (Int32.ofInt n).toNatClampNeg ≤ n0.toNat := by omega
  have k5 : (Int32.ofInt dp).toNatClampNeg + (Int32.ofInt n).toNatClampNeg ≤ n1.toNat := by omega
  refine va_copyi (ty := .int) hC.1 hC.2.1 (hC.2.2.1.trans hH.2.2.2.2.1.1.symm) hC.2.2.2.2.2.1 (hts _ hm) (hts _ ma_nat) (hts _ ma_sta) (hts _ ma_ini) hC.2.2.2.2.2.2.2.2.2.1 hH.1 hH.2.1 hH.2.2.1 (c0.toNat - lo) (c1.toNat - lo) 0 0 hw0 hw1 rfl rfl rfl (ng sp hsp hb.1) (ng dp hdp hb.2.1) (ng n hn hb.2.2.1) k4 k5 (fun _ _ => rfl) (by have := hC.2.2.2.2.2.2.2.1; omega) hl hd (fun H1 locs1 hP1 _ hS1 => ?_)
  have e1 : (fun j : Nat => Int32.ofInt (sg_cp G c0 sp c1 dp n c1 (j : Int))) = va_cpy (fun j : Nat => Int32.ofInt (G c0 (j : Int))) (fun j : Nat => Int32.ofInt (G c1 (j : Int))) (Int32.ofInt sp).toNatClampNeg (Int32.ofInt dp).toNatClampNeg (Int32.ofInt n).toNatClampNeg := by
    funext j
    unfold va_cpy sg_cp
    by_cases hj : (Int32.ofInt dp).toNatClampNeg ≤ j ∧ j < (Int32.ofInt dp).toNatClampNeg + (Int32.ofInt n).toNatClampNeg
    · rw [if_pos hj, if_pos ⟨rfl, by omega, by omega⟩]
      congr 2
      omega
    · rw [if_neg hj, if_neg (fun q => hj ⟨by omega, by omega⟩)]
  rw [← e1, ← sg_e1 (G := sg_cp G c0 sp c1 dp n) h1.2, sg_W_set h1.1 (fun c' hc' => sg_e_off (fun i => by unfold sg_cp; rw [if_neg (fun q => hc' q.1)]))] at hP1
  have hcan : sg_can (sg_cp G c0 sp c1 dp n) := by
    intro c' i'
    unfold sg_cp
    by_cases q : c' = c1 ∧ dp ≤ i' ∧ i' < dp + n
    · rw [if_pos q, q.1, h1.2, if_neg (by simp)]
      exact sg_can32 hH.2.2.2.1 (by rw [h0.2]; simp)
    · rw [if_neg q]
      exact hH.2.2.2.1 c' i'
  exact h p l e R s m args below meth c D cy a H1 locs1 ls hC (hH.mem hP1 hS1 hcan (sg_tl1 (sg_tl1 (sg_tl1 (sg_tl1 (sg_tl1 hH.sk))))))
theorem sg_Wp.keepk {lo N d : Nat} {y : SgY} {pc : Nat} {L L' : SgL} {S : SgS} {G : SgM} {Q : Int → SgM → Prop} (ks : List Nat) (hl : ks.map (fun k => L[k]?) = L'.map some) (h : sg_Wp lo N d y pc L' S G Q) : sg_Wp lo N d y pc L S G Q := by
  refine h.keep (fun q hq => ?_)
  have h1 : some q ∈ L'.map some := List.mem_map.mpr ⟨q, hq, rfl⟩
  rw [← hl] at h1
  obtain ⟨k, -, hk⟩ := List.mem_map.mp h1
  exact List.mem_of_getElem? hk
end
section
/-! METHODS THAT ONLY COMPUTE -/
theorem g_G_isBelow_0 {d N : Nat} {v0 v1 : Int} {G : SgM} {Q : Int → SgM → Prop} (h : (v0 < 0 → (Q 0 G)) ∧ (¬ (v0 < 0) → ((v1 ≤ v0 → (Q 0 G)) ∧ (¬ (v1 ≤ v0) → (Q 1 G))))) : sg_Wp 0 N d m_G_isBelow 0 [(0, 0, v0), (1, 0, v1)] [] G Q := by
  refine sg_blk [(3, 0, 0, 0, 0)] (by decide +kernel) ?_
  refine And.intro rfl (?_)
  show sg_Wp 0 N d m_G_isBelow 1 [(0, 0, v0), (1, 0, v1)] [(0, v0)] G Q
  refine sg_if_lt (off := 12) (tgt := 13) (by decide +kernel) (by decide) ⟨fun q2 => ?_, fun q2 => ?_⟩
  · refine sg_blk [(7, 0, 0, 0, 0)] (by decide +kernel) ?_
    refine And.intro rfl (?_)
    show sg_Wp 0 N d m_G_isBelow 14 [(0, 0, v0), (1, 0, v1)] [(0, 0)] G Q
    exact sg_ret (by decide +kernel) rfl (Or.inr ⟨Or.inl rfl, by decide⟩) ((h.1 q2))
  · refine sg_blk [(3, 0, 0, 0, 0), (3, 0, 0, 1, 0)] (by decide +kernel) ?_
    refine And.intro rfl (And.intro rfl (?_))
    show sg_Wp 0 N d m_G_isBelow 6 [(0, 0, v0), (1, 0, v1)] [(0, v1), (0, v0)] G Q
    refine sg_icmp_ge (off := 7) (tgt := 13) (by decide +kernel) (by decide) ⟨fun q1 => ?_, fun q1 => ?_⟩
    · refine sg_blk [(7, 0, 0, 0, 0)] (by decide +kernel) ?_
      refine And.intro rfl (?_)
      show sg_Wp 0 N d m_G_isBelow 14 [(0, 0, v0), (1, 0, v1)] [(0, 0)] G Q
      exact sg_ret (by decide +kernel) rfl (Or.inr ⟨Or.inl rfl, by decide⟩) (((h.2 q2).1 q1))
    · refine sg_blk [(7, 1, 0, 0, 0)] (by decide +kernel) ?_
      refine And.intro rfl (?_)
      show sg_Wp 0 N d m_G_isBelow 10 [(0, 0, v0), (1, 0, v1)] [(0, 1)] G Q
      refine sg_goto (off := 4) (tgt := 14) (by decide +kernel) (by decide) ?_
      exact sg_ret (by decide +kernel) rfl (Or.inr ⟨Or.inl rfl, by decide⟩) (((h.2 q2).2 q1))
theorem s_G_isBelow {d N : Nat} {v0 v1 : Int} {G : SgM} {Q : Int → SgM → Prop} (h : Q (sg_bo (0 ≤ v0 ∧ v0 < v1)) G) : sg_Wp 0 N d m_G_isBelow 0 [(0, 0, v0), (1, 0, v1)] [] G Q := by
  refine g_G_isBelow_0 ⟨fun q => ?_, fun q => ⟨fun q2 => ?_, fun q2 => ?_⟩⟩
  · rw [sg_bo_f (by omega)] at h; exact h
  · rw [sg_bo_f (by omega)] at h; exact h
  · rw [sg_bo_t (by omega)] at h; exact h
theorem g_G_hasBit_0 {d N : Nat} {v0 v1 : Int} {G : SgM} {Q : Int → SgM → Prop} (h : ((sg_iand (sg_ishr v0 v1) 1) = 0 → (Q 0 G)) ∧ (¬ ((sg_iand (sg_ishr v0 v1) 1) = 0) → (Q 1 G))) : sg_Wp 0 N d m_G_hasBit 0 [(0, 0, v0), (1, 0, v1)] [] G Q := by
  refine sg_blk [(3, 0, 0, 0, 0), (3, 0, 0, 1, 0), (42, 0, 0, 0, 0), (7, 1, 0, 0, 0), (38, 0, 0, 0, 0)] (by decide +kernel) ?_
  refine And.intro rfl (And.intro rfl (And.intro rfl (?_)))
  show sg_Wp 0 N d m_G_hasBit 5 [(0, 0, v0), (1, 0, v1)] [(0, sg_iand (sg_ishr v0 v1) 1)] G Q
  refine sg_if_eq (off := 7) (tgt := 12) (by decide +kernel) (by decide) ⟨fun q1 => ?_, fun q1 => ?_⟩
  · refine sg_blk [(7, 0, 0, 0, 0)] (by decide +kernel) ?_
    refine And.intro rfl (?_)
    show sg_Wp 0 N d m_G_hasBit 13 [(0, 0, v0), (1, 0, v1)] [(0, 0)] G Q
    exact sg_ret (by decide +kernel) rfl (Or.inr ⟨Or.inl rfl, by decide⟩) ((h.1 q1))
  · refine sg_blk [(7, 1, 0, 0, 0)] (by decide +kernel) ?_
    refine And.intro rfl (?_)
    show sg_Wp 0 N d m_G_hasBit 9 [(0, 0, v0), (1, 0, v1)] [(0, 1)] G Q
    refine sg_goto (off := 4) (tgt := 13) (by decide +kernel) (by decide) ?_
    exact sg_ret (by decide +kernel) rfl (Or.inr ⟨Or.inl rfl, by decide⟩) ((h.2 q1))
theorem s_G_hasBit {d N : Nat} {v0 v1 : Int} {G : SgM} {Q : Int → SgM → Prop} (h : Q (sg_bo (sg_iand (sg_ishr v0 v1) 1 ≠ 0)) G) : sg_Wp 0 N d m_G_hasBit 0 [(0, 0, v0), (1, 0, v1)] [] G Q := by
  refine g_G_hasBit_0 ⟨fun q => ?_, fun q => ?_⟩
  · rw [sg_bo_f (fun z => z q)] at h; exact h
  · rw [sg_bo_t q] at h; exact h
theorem g_D_divides_0 {d N : Nat} {v0 v1 : Int} {G : SgM} {Q : Int → SgM → Prop} (h : (v0 ≤ 0 → (Q 0 G)) ∧ (¬ (v0 ≤ 0) → ((v0 ≠ 0) ∧ (((sg_irem v1 v0) ≠ 0 → (Q 0 G)) ∧ (¬ ((sg_irem v1 v0) ≠ 0) → (Q 1 G)))))) : sg_Wp 0 N d m_D_divides 0 [(0, 0, v0), (1, 0, v1)] [] G Q := by
  refine sg_blk [(3, 0, 0, 0, 0)] (by decide +kernel) ?_
  refine And.intro rfl (?_)
  show sg_Wp 0 N d m_D_divides 1 [(0, 0, v0), (1, 0, v1)] [(0, v0)] G Q
  refine sg_if_le (off := 13) (tgt := 14) (by decide +kernel) (by decide) ⟨fun q2 => ?_, fun q2 => ?_⟩
  · refine sg_blk [(7, 0, 0, 0, 0)] (by decide +kernel) ?_
    refine And.intro rfl (?_)
    show sg_Wp 0 N d m_D_divides 15 [(0, 0, v0), (1, 0, v1)] [(0, 0)] G Q
    exact sg_ret (by decide +kernel) rfl (Or.inr ⟨Or.inl rfl, by decide⟩) ((h.1 q2))
  · refine sg_blk [(3, 0, 0, 1, 0), (3, 0, 0, 0, 0), (36, 0, 0, 0, 0)] (by decide +kernel) ?_
    refine And.intro rfl (And.intro rfl (And.intro (h.2 q2).1 (?_)))
    show sg_Wp 0 N d m_D_divides 7 [(0, 0, v0), (1, 0, v1)] [(0, sg_irem v1 v0)] G Q
    refine sg_if_ne (off := 7) (tgt := 14) (by decide +kernel) (by decide) ⟨fun q1 => ?_, fun q1 => ?_⟩
    · refine sg_blk [(7, 0, 0, 0, 0)] (by decide +kernel) ?_
      refine And.intro rfl (?_)
      show sg_Wp 0 N d m_D_divides 15 [(0, 0, v0), (1, 0, v1)] [(0, 0)] G Q
      exact sg_ret (by decide +kernel) rfl (Or.inr ⟨Or.inl rfl, by decide⟩) (((h.2 q2).2.1 q1))
    · refine sg_blk [(7, 1, 0, 0, 0)] (by decide +kernel) ?_
      refine And.intro rfl (?_)
      show sg_Wp 0 N d m_D_divides 11 [(0, 0, v0), (1, 0, v1)] [(0, 1)] G Q
      refine sg_goto (off := 4) (tgt := 15) (by decide +kernel) (by decide) ?_
      exact sg_ret (by decide +kernel) rfl (Or.inr ⟨Or.inl rfl, by decide⟩) (((h.2 q2).2.2 q1))
theorem s_D_divides {d N : Nat} {v0 v1 : Int} {G : SgM} {Q : Int → SgM → Prop} (h : Q (sg_bo (0 < v0 ∧ sg_irem v1 v0 = 0)) G) : sg_Wp 0 N d m_D_divides 0 [(0, 0, v0), (1, 0, v1)] [] G Q := by
  refine g_D_divides_0 ⟨fun q => ?_, fun q => ⟨by omega, fun q2 => ?_, fun q2 => ?_⟩⟩
  · rw [sg_bo_f (fun z => by omega)] at h; exact h
  · rw [sg_bo_f (fun z => q2 z.2)] at h; exact h
  · rw [sg_bo_t ⟨by omega, Decidable.byContradiction q2⟩] at h; exact h
theorem g_E_mayBe_0 {d N : Nat} {v0 v1 v2 : Int} {G : SgM} {Q : Int → SgM → Prop} (h : ((0 ≤ v0 ∧ v0 < 3) → (((0 ≤ v1 ∧ v1 < 24) → (((0 ≤ v2 ∧ v2 < 10) → (Q 1 G)) ∧ (¬ (0 ≤ v2 ∧ v2 < 10) → (Q 0 G)))) ∧ (¬ (0 ≤ v1 ∧ v1 < 24) → (Q 0 G)))) ∧ (¬ (0 ≤ v0 ∧ v0 < 3) → (Q 0 G))) : sg_Wp 0 N (d + 1) m_E_mayBe 0 [(0, 0, v0), (1, 0, v1), (2, 0, v2)] [] G Q := by
  refine sg_blk [(3, 0, 0, 0, 0), (7, 3, 0, 0, 0)] (by decide +kernel) ?_
  refine And.intro rfl (And.intro rfl (?_))
  show sg_Wp 0 N (d + 1) m_E_mayBe 2 [(0, 0, v0), (1, 0, v1), (2, 0, v2)] [(0, 3), (0, v0)] G Q
  refine sg_callN (k := d) (y' := m_G_isBelow) (av := [(0, v0), (0, 3)]) (rest := []) (idx := 21) (by decide +kernel) cs_G_isBelow (List.mem_of_getElem? (i := 5) rfl) rfl (Nat.le_of_ble_eq_true rfl) (Nat.lt_succ_self d) (Nat.le_of_ble_eq_true rfl) rfl ?_
  show sg_Wp 0 N d m_G_isBelow 0 [(0, 0, v0), (1, 0, 3)] [] G _
  refine s_G_isBelow ?_
  show sg_Wp 0 N (d + 1) m_E_mayBe 5 [(0, 0, v0), (1, 0, v1), (2, 0, v2)] [(0, sg_bo (0 ≤ v0 ∧ v0 < 3))] G Q
  refine sg_bif_eq (off := 25) (tgt := 30) (by decide +kernel) (by decide) ⟨fun q3 => ?_, fun q3 => ?_⟩
  · refine sg_blk [(3, 0, 0, 1, 0), (8, 24, 0, 0, 0)] (by decide +kernel) ?_
    refine And.intro rfl (And.intro rfl (And.intro rfl (?_)))
    show sg_Wp 0 N (d + 1) m_E_mayBe 11 [(0, 0, v0), (1, 0, v1), (2, 0, v2)] [(0, 24), (0, v1)] G Q
    refine sg_callN (k := d) (y' := m_G_isBelow) (av := [(0, v1), (0, 24)]) (rest := []) (idx := 21) (by decide +kernel) cs_G_isBelow (List.mem_of_getElem? (i := 5) rfl) rfl (Nat.le_of_ble_eq_true rfl) (Nat.lt_succ_self d) (Nat.le_of_ble_eq_true rfl) rfl ?_
    show sg_Wp 0 N d m_G_isBelow 0 [(0, 0, v1), (1, 0, 24)] [] G _
    refine s_G_isBelow ?_
    show sg_Wp 0 N (d + 1) m_E_mayBe 14 [(0, 0, v0), (1, 0, v1), (2, 0, v2)] [(0, sg_bo (0 ≤ v1 ∧ v1 < 24))] G Q
    refine sg_bif_eq (off := 16) (tgt := 30) (by decide +kernel) (by decide) ⟨fun q2 => ?_, fun q2 => ?_⟩
    · refine sg_blk [(3, 0, 0, 2, 0), (8, 10, 0, 0, 0)] (by decide +kernel) ?_
      refine And.intro rfl (And.intro rfl (And.intro rfl (?_)))
      show sg_Wp 0 N (d + 1) m_E_mayBe 20 [(0, 0, v0), (1, 0, v1), (2, 0, v2)] [(0, 10), (0, v2)] G Q
      refine sg_callN (k := d) (y' := m_G_isBelow) (av := [(0, v2), (0, 10)]) (rest := []) (idx := 21) (by decide +kernel) cs_G_isBelow (List.mem_of_getElem? (i := 5) rfl) rfl (Nat.le_of_ble_eq_true rfl) (Nat.lt_succ_self d) (Nat.le_of_ble_eq_true rfl) rfl ?_
      show sg_Wp 0 N d m_G_isBelow 0 [(0, 0, v2), (1, 0, 10)] [] G _
      refine s_G_isBelow ?_
      show sg_Wp 0 N (d + 1) m_E_mayBe 23 [(0, 0, v0), (1, 0, v1), (2, 0, v2)] [(0, sg_bo (0 ≤ v2 ∧ v2 < 10))] G Q
      refine sg_bif_eq (off := 7) (tgt := 30) (by decide +kernel) (by decide) ⟨fun q1 => ?_, fun q1 => ?_⟩
      · refine sg_blk [(7, 1, 0, 0, 0)] (by decide +kernel) ?_
        refine And.intro rfl (?_)
        show sg_Wp 0 N (d + 1) m_E_mayBe 27 [(0, 0, v0), (1, 0, v1), (2, 0, v2)] [(0, 1)] G Q
        refine sg_goto (off := 4) (tgt := 31) (by decide +kernel) (by decide) ?_
        exact sg_ret (by decide +kernel) rfl (Or.inr ⟨Or.inl rfl, by decide⟩) ((((h.1 q3).1 q2).1 q1))
      · refine sg_blk [(7, 0, 0, 0, 0)] (by decide +kernel) ?_
        refine And.intro rfl (?_)
        show sg_Wp 0 N (d + 1) m_E_mayBe 31 [(0, 0, v0), (1, 0, v1), (2, 0, v2)] [(0, 0)] G Q
        exact sg_ret (by decide +kernel) rfl (Or.inr ⟨Or.inl rfl, by decide⟩) ((((h.1 q3).1 q2).2 q1))
    · refine sg_blk [(7, 0, 0, 0, 0)] (by decide +kernel) ?_
      refine And.intro rfl (?_)
      show sg_Wp 0 N (d + 1) m_E_mayBe 31 [(0, 0, v0), (1, 0, v1), (2, 0, v2)] [(0, 0)] G Q
      exact sg_ret (by decide +kernel) rfl (Or.inr ⟨Or.inl rfl, by decide⟩) (((h.1 q3).2 q2))
  · refine sg_blk [(7, 0, 0, 0, 0)] (by decide +kernel) ?_
    refine And.intro rfl (?_)
    show sg_Wp 0 N (d + 1) m_E_mayBe 31 [(0, 0, v0), (1, 0, v1), (2, 0, v2)] [(0, 0)] G Q
    exact sg_ret (by decide +kernel) rfl (Or.inr ⟨Or.inl rfl, by decide⟩) ((h.2 q3))
theorem s_E_mayBe {d N : Nat} {v0 v1 v2 : Int} {G : SgM} {Q : Int → SgM → Prop} (h : Q (sg_bo ((0 ≤ v0 ∧ v0 < 3) ∧ (0 ≤ v1 ∧ v1 < 24) ∧ (0 ≤ v2 ∧ v2 < 10))) G) : sg_Wp 0 N (d + 1) m_E_mayBe 0 [(0, 0, v0), (1, 0, v1), (2, 0, v2)] [] G Q := by
  refine g_E_mayBe_0 ⟨fun q => ⟨fun q2 => ⟨fun q3 => ?_, fun q3 => ?_⟩, fun q2 => ?_⟩, fun q => ?_⟩
  · rw [sg_bo_t (by omega)] at h; exact h
  · rw [sg_bo_f (by omega)] at h; exact h
  · rw [sg_bo_f (by omega)] at h; exact h
  · rw [sg_bo_f (by omega)] at h; exact h
theorem g_Z_hasRoom_0 {d N : Nat} {v0 v1 v2 : Int} {G : SgM} {Q : Int → SgM → Prop} (h : (v1 < 0 → (Q 0 G)) ∧ (¬ (v1 < 0) → ((v2 < 0 → (Q 0 G)) ∧ (¬ (v2 < 0) → ((v0 < v2 → (Q 0 G)) ∧ (¬ (v0 < v2) → (((sg_isub v0 v2) < v1 → (Q 0 G)) ∧ (¬ ((sg_isub v0 v2) < v1) → (Q 1 G))))))))) : sg_Wp 0 N d m_Z_hasRoom 0 [(0, 0, v0), (1, 0, v1), (2, 0, v2)] [] G Q := by
  refine sg_blk [(3, 0, 0, 1, 0)] (by decide +kernel) ?_
  refine And.intro rfl (?_)
  show sg_Wp 0 N d m_Z_hasRoom 1 [(0, 0, v0), (1, 0, v1), (2, 0, v2)] [(0, v1)] G Q
  refine sg_if_lt (off := 23) (tgt := 24) (by decide +kernel) (by decide) ⟨fun q4 => ?_, fun q4 => ?_⟩
  · refine sg_blk [(7, 0, 0, 0, 0)] (by decide +kernel) ?_
    refine And.intro rfl (?_)
    show sg_Wp 0 N d m_Z_hasRoom 25 [(0, 0, v0), (1, 0, v1), (2, 0, v2)] [(0, 0)] G Q
    exact sg_ret (by decide +kernel) rfl (Or.inr ⟨Or.inl rfl, by decide⟩) ((h.1 q4))
  · refine sg_blk [(3, 0, 0, 2, 0)] (by decide +kernel) ?_
    refine And.intro rfl (?_)
    show sg_Wp 0 N d m_Z_hasRoom 5 [(0, 0, v0), (1, 0, v1), (2, 0, v2)] [(0, v2)] G Q
    refine sg_if_lt (off := 19) (tgt := 24) (by decide +kernel) (by decide) ⟨fun q3 => ?_, fun q3 => ?_⟩
    · refine sg_blk [(7, 0, 0, 0, 0)] (by decide +kernel) ?_
      refine And.intro rfl (?_)
      show sg_Wp 0 N d m_Z_hasRoom 25 [(0, 0, v0), (1, 0, v1), (2, 0, v2)] [(0, 0)] G Q
      exact sg_ret (by decide +kernel) rfl (Or.inr ⟨Or.inl rfl, by decide⟩) (((h.2 q4).1 q3))
    · refine sg_blk [(3, 0, 0, 2, 0), (3, 0, 0, 0, 0)] (by decide +kernel) ?_
      refine And.intro rfl (And.intro rfl (?_))
      show sg_Wp 0 N d m_Z_hasRoom 10 [(0, 0, v0), (1, 0, v1), (2, 0, v2)] [(0, v0), (0, v2)] G Q
      refine sg_icmp_gt (off := 14) (tgt := 24) (by decide +kernel) (by decide) ⟨fun q2 => ?_, fun q2 => ?_⟩
      · refine sg_blk [(7, 0, 0, 0, 0)] (by decide +kernel) ?_
        refine And.intro rfl (?_)
        show sg_Wp 0 N d m_Z_hasRoom 25 [(0, 0, v0), (1, 0, v1), (2, 0, v2)] [(0, 0)] G Q
        exact sg_ret (by decide +kernel) rfl (Or.inr ⟨Or.inl rfl, by decide⟩) ((((h.2 q4).2 q3).1 q2))
      · refine sg_blk [(3, 0, 0, 1, 0), (3, 0, 0, 0, 0), (3, 0, 0, 2, 0), (33, 0, 0, 0, 0)] (by decide +kernel) ?_
        refine And.intro rfl (And.intro rfl (And.intro rfl (?_)))
        show sg_Wp 0 N d m_Z_hasRoom 17 [(0, 0, v0), (1, 0, v1), (2, 0, v2)] [(0, sg_isub v0 v2), (0, v1)] G Q
        refine sg_icmp_gt (off := 7) (tgt := 24) (by decide +kernel) (by decide) ⟨fun q1 => ?_, fun q1 => ?_⟩
        · refine sg_blk [(7, 0, 0, 0, 0)] (by decide +kernel) ?_
          refine And.intro rfl (?_)
          show sg_Wp 0 N d m_Z_hasRoom 25 [(0, 0, v0), (1, 0, v1), (2, 0, v2)] [(0, 0)] G Q
          exact sg_ret (by decide +kernel) rfl (Or.inr ⟨Or.inl rfl, by decide⟩) (((((h.2 q4).2 q3).2 q2).1 q1))
        · refine sg_blk [(7, 1, 0, 0, 0)] (by decide +kernel) ?_
          refine And.intro rfl (?_)
          show sg_Wp 0 N d m_Z_hasRoom 21 [(0, 0, v0), (1, 0, v1), (2, 0, v2)] [(0, 1)] G Q
          refine sg_goto (off := 4) (tgt := 25) (by decide +kernel) (by decide) ?_
          exact sg_ret (by decide +kernel) rfl (Or.inr ⟨Or.inl rfl, by decide⟩) (((((h.2 q4).2 q3).2 q2).2 q1))
theorem s_Z_hasRoom {d N : Nat} {v0 v1 v2 : Int} {G : SgM} {Q : Int → SgM → Prop} (h : Q (sg_bo (0 ≤ v1 ∧ 0 ≤ v2 ∧ v2 ≤ v0 ∧ v1 ≤ sg_isub v0 v2)) G) : sg_Wp 0 N d m_Z_hasRoom 0 [(0, 0, v0), (1, 0, v1), (2, 0, v2)] [] G Q := by
  refine g_Z_hasRoom_0 ⟨fun q => ?_, fun q => ⟨fun q2 => ?_, fun q2 => ⟨fun q3 => ?_, fun q3 => ⟨fun q4 => ?_, fun q4 => ?_⟩⟩⟩⟩
  · rw [sg_bo_f (by omega)] at h; exact h
  · rw [sg_bo_f (by omega)] at h; exact h
  · rw [sg_bo_f (by omega)] at h; exact h
  · rw [sg_bo_f (by omega)] at h; exact h
  · rw [sg_bo_t (by omega)] at h; exact h
theorem g_G_digestHour_0 {d N : Nat} {v0 : Int} {G : SgM} {Q : Int → SgM → Prop} (h : (v0 = 0 → (Q 0 G)) ∧ (v0 ≠ 0 → ((v0 = 1 → (Q 7 G)) ∧ (v0 ≠ 1 → ((v0 = 2 → (Q 15 G)) ∧ (v0 ≠ 2 → (Q 23 G))))))) : sg_Wp 0 N d m_G_digestHour 0 [(0, 0, v0)] [] G Q := by
  refine sg_blk [(3, 0, 0, 0, 0)] (by decide +kernel) ?_
  refine And.intro rfl (?_)
  show sg_Wp 0 N d m_G_digestHour 1 [(0, 0, v0)] [(0, v0)] G Q
  refine sg_tsw (dflt := 35) (low := 0) (high := 2) (offs := #[27, 29, 32]) (len := 27) (dt := 36) (ts := [28, 30, 33]) (by decide +kernel) (by decide) (by decide) (by decide) ?_
  refine ⟨fun q3 => ?_, fun q3 => ?_⟩
  · refine sg_blk [(7, 0, 0, 0, 0)] (by decide +kernel) ?_
    refine And.intro rfl (?_)
    show sg_Wp 0 N d m_G_digestHour 29 [(0, 0, v0)] [(0, 0)] G Q
    exact sg_ret (by decide +kernel) rfl (Or.inl rfl) ((h.1 q3))
  · refine ⟨fun q2 => ?_, fun q2 => ?_⟩
    · refine sg_blk [(8, 7, 0, 0, 0)] (by decide +kernel) ?_
      refine And.intro rfl (And.intro rfl (?_))
      show sg_Wp 0 N d m_G_digestHour 32 [(0, 0, v0)] [(0, 7)] G Q
      exact sg_ret (by decide +kernel) rfl (Or.inl rfl) (((h.2 q3).1 q2))
    · refine ⟨fun q1 => ?_, fun q1 => ?_⟩
      · refine sg_blk [(8, 15, 0, 0, 0)] (by decide +kernel) ?_
        refine And.intro rfl (And.intro rfl (?_))
        show sg_Wp 0 N d m_G_digestHour 35 [(0, 0, v0)] [(0, 15)] G Q
        exact sg_ret (by decide +kernel) rfl (Or.inl rfl) ((((h.2 q3).2 q2).1 q1))
      · refine sg_blk [(8, 23, 0, 0, 0)] (by decide +kernel) ?_
        refine And.intro rfl (And.intro rfl (?_))
        show sg_Wp 0 N d m_G_digestHour 38 [(0, 0, v0)] [(0, 23)] G Q
        exact sg_ret (by decide +kernel) rfl (Or.inl rfl) ((((h.2 q3).2 q2).2 q1))
def sg_dh (i : Int) : Int := if i = 0 then 0 else if i = 1 then 7 else if i = 2 then 15 else 23
theorem s_G_digestHour {d N : Nat} {v0 : Int} {G : SgM} {Q : Int → SgM → Prop} (h : Q (sg_dh v0) G) : sg_Wp 0 N d m_G_digestHour 0 [(0, 0, v0)] [] G Q := by
  unfold sg_dh at h
  refine g_G_digestHour_0 ⟨fun q => ?_, fun q => ⟨fun q2 => ?_, fun q2 => ⟨fun q3 => ?_, fun q3 => ?_⟩⟩⟩
  · rw [if_pos q] at h; exact h
  · rw [if_neg q, if_pos q2] at h; exact h
  · rw [if_neg q, if_neg q2, if_pos q3] at h; exact h
  · rw [if_neg q, if_neg q2, if_neg q3] at h; exact h
def sg_ibc (v0 : Int) : Int := sg_iand (sg_iadd (sg_iadd (sg_iand (sg_iadd (sg_iadd (sg_iand (sg_isub v0 (sg_iand (sg_iushr v0 1) 1431655765)) 858993459) (sg_iand (sg_iushr (sg_isub v0 (sg_iand (sg_iushr v0 1) 1431655765)) 2) 858993459)) (sg_iushr (sg_iadd (sg_iand (sg_isub v0 (sg_iand (sg_iushr v0 1) 1431655765)) 858993459) (sg_iand (sg_iushr (sg_isub v0 (sg_iand (sg_iushr v0 1) 1431655765)) 2) 858993459)) 4)) 252645135) (sg_iushr (sg_iand (sg_iadd (sg_iadd (sg_iand (sg_isub v0 (sg_iand (sg_iushr v0 1) 1431655765)) 858993459) (sg_iand (sg_iushr (sg_isub v0 (sg_iand (sg_iushr v0 1) 1431655765)) 2) 858993459)) (sg_iushr (sg_iadd (sg_iand (sg_isub v0 (sg_iand (sg_iushr v0 1) 1431655765)) 858993459) (sg_iand (sg_iushr (sg_isub v0 (sg_iand (sg_iushr v0 1) 1431655765)) 2) 858993459)) 4)) 252645135) 8)) (sg_iushr (sg_iadd (sg_iand (sg_iadd (sg_iadd (sg_iand (sg_isub v0 (sg_iand (sg_iushr v0 1) 1431655765)) 858993459) (sg_iand (sg_iushr (sg_isub v0 (sg_iand (sg_iushr v0 1) 1431655765)) 2) 858993459)) (sg_iushr (sg_iadd (sg_iand (sg_isub v0 (sg_iand (sg_iushr v0 1) 1431655765)) 858993459) (sg_iand (sg_iushr (sg_isub v0 (sg_iand (sg_iushr v0 1) 1431655765)) 2) 858993459)) 4)) 252645135) (sg_iushr (sg_iand (sg_iadd (sg_iadd (sg_iand (sg_isub v0 (sg_iand (sg_iushr v0 1) 1431655765)) 858993459) (sg_iand (sg_iushr (sg_isub v0 (sg_iand (sg_iushr v0 1) 1431655765)) 2) 858993459)) (sg_iushr (sg_iadd (sg_iand (sg_isub v0 (sg_iand (sg_iushr v0 1) 1431655765)) 858993459) (sg_iand (sg_iushr (sg_isub v0 (sg_iand (sg_iushr v0 1) 1431655765)) 2) 858993459)) 4)) 252645135) 8)) 16)) 63
theorem g_I_bitCount_0 {lo d N : Nat} {v0 : Int} {G : SgM} {Q : Int → SgM → Prop} (h : Q (sg_iand (sg_iadd (sg_iadd (sg_iand (sg_iadd (sg_iadd (sg_iand (sg_isub v0 (sg_iand (sg_iushr v0 1) 1431655765)) 858993459) (sg_iand (sg_iushr (sg_isub v0 (sg_iand (sg_iushr v0 1) 1431655765)) 2) 858993459)) (sg_iushr (sg_iadd (sg_iand (sg_isub v0 (sg_iand (sg_iushr v0 1) 1431655765)) 858993459) (sg_iand (sg_iushr (sg_isub v0 (sg_iand (sg_iushr v0 1) 1431655765)) 2) 858993459)) 4)) 252645135) (sg_iushr (sg_iand (sg_iadd (sg_iadd (sg_iand (sg_isub v0 (sg_iand (sg_iushr v0 1) 1431655765)) 858993459) (sg_iand (sg_iushr (sg_isub v0 (sg_iand (sg_iushr v0 1) 1431655765)) 2) 858993459)) (sg_iushr (sg_iadd (sg_iand (sg_isub v0 (sg_iand (sg_iushr v0 1) 1431655765)) 858993459) (sg_iand (sg_iushr (sg_isub v0 (sg_iand (sg_iushr v0 1) 1431655765)) 2) 858993459)) 4)) 252645135) 8)) (sg_iushr (sg_iadd (sg_iand (sg_iadd (sg_iadd (sg_iand (sg_isub v0 (sg_iand (sg_iushr v0 1) 1431655765)) 858993459) (sg_iand (sg_iushr (sg_isub v0 (sg_iand (sg_iushr v0 1) 1431655765)) 2) 858993459)) (sg_iushr (sg_iadd (sg_iand (sg_isub v0 (sg_iand (sg_iushr v0 1) 1431655765)) 858993459) (sg_iand (sg_iushr (sg_isub v0 (sg_iand (sg_iushr v0 1) 1431655765)) 2) 858993459)) 4)) 252645135) (sg_iushr (sg_iand (sg_iadd (sg_iadd (sg_iand (sg_isub v0 (sg_iand (sg_iushr v0 1) 1431655765)) 858993459) (sg_iand (sg_iushr (sg_isub v0 (sg_iand (sg_iushr v0 1) 1431655765)) 2) 858993459)) (sg_iushr (sg_iadd (sg_iand (sg_isub v0 (sg_iand (sg_iushr v0 1) 1431655765)) 858993459) (sg_iand (sg_iushr (sg_isub v0 (sg_iand (sg_iushr v0 1) 1431655765)) 2) 858993459)) 4)) 252645135) 8)) 16)) 63) G) : sg_Wp lo N d m_I_bitCount 0 [(0, 0, v0)] [] G Q := by
  refine sg_blk [(3, 0, 0, 0, 0), (3, 0, 0, 0, 0), (7, 1, 0, 0, 0), (43, 0, 0, 0, 0), (14, 1431655765, 0, 265, 0), (38, 0, 0, 0, 0), (33, 0, 0, 0, 0), (25, 0, 0, 0, 0), (3, 0, 0, 0, 0), (14, 858993459, 0, 266, 0), (38, 0, 0, 0, 0), (3, 0, 0, 0, 0), (7, 2, 0, 0, 0), (43, 0, 0, 0, 0), (14, 858993459, 0, 266, 0), (38, 0, 0, 0, 0), (32, 0, 0, 0, 0), (25, 0, 0, 0, 0), (3, 0, 0, 0, 0), (3, 0, 0, 0, 0), (7, 4, 0, 0, 0), (43, 0, 0, 0, 0), (32, 0, 0, 0, 0), (14, 252645135, 0, 267, 0), (38, 0, 0, 0, 0), (25, 0, 0, 0, 0), (3, 0, 0, 0, 0), (3, 0, 0, 0, 0), (8, 8, 0, 0, 0), (43, 0, 0, 0, 0), (32, 0, 0, 0, 0), (25, 0, 0, 0, 0), (3, 0, 0, 0, 0), (3, 0, 0, 0, 0), (8, 16, 0, 0, 0), (43, 0, 0, 0, 0), (32, 0, 0, 0, 0), (25, 0, 0, 0, 0), (3, 0, 0, 0, 0), (8, 63, 0, 0, 0), (38, 0, 0, 0, 0)] (by decide +kernel) ?_
  refine And.intro rfl (And.intro rfl (And.intro rfl (And.intro rfl (And.intro rfl (And.intro rfl (And.intro rfl (And.intro rfl (And.intro rfl (And.intro rfl (And.intro rfl (And.intro rfl (And.intro rfl (And.intro rfl (And.intro rfl (And.intro rfl (And.intro rfl (And.intro rfl (And.intro rfl (And.intro rfl (And.intro rfl (And.intro rfl (And.intro rfl (And.intro rfl (And.intro rfl (And.intro rfl (And.intro rfl (And.intro rfl (And.intro rfl (?_)))))))))))))))))))))))))))))
  show sg_Wp lo N d m_I_bitCount 52 [(0, 0, sg_iadd (sg_iadd (sg_iand (sg_iadd (sg_iadd (sg_iand (sg_isub v0 (sg_iand (sg_iushr v0 1) 1431655765)) 858993459) (sg_iand (sg_iushr (sg_isub v0 (sg_iand (sg_iushr v0 1) 1431655765)) 2) 858993459)) (sg_iushr (sg_iadd (sg_iand (sg_isub v0 (sg_iand (sg_iushr v0 1) 1431655765)) 858993459) (sg_iand (sg_iushr (sg_isub v0 (sg_iand (sg_iushr v0 1) 1431655765)) 2) 858993459)) 4)) 252645135) (sg_iushr (sg_iand (sg_iadd (sg_iadd (sg_iand (sg_isub v0 (sg_iand (sg_iushr v0 1) 1431655765)) 858993459) (sg_iand (sg_iushr (sg_isub v0 (sg_iand (sg_iushr v0 1) 1431655765)) 2) 858993459)) (sg_iushr (sg_iadd (sg_iand (sg_isub v0 (sg_iand (sg_iushr v0 1) 1431655765)) 858993459) (sg_iand (sg_iushr (sg_isub v0 (sg_iand (sg_iushr v0 1) 1431655765)) 2) 858993459)) 4)) 252645135) 8)) (sg_iushr (sg_iadd (sg_iand (sg_iadd (sg_iadd (sg_iand (sg_isub v0 (sg_iand (sg_iushr v0 1) 1431655765)) 858993459) (sg_iand (sg_iushr (sg_isub v0 (sg_iand (sg_iushr v0 1) 1431655765)) 2) 858993459)) (sg_iushr (sg_iadd (sg_iand (sg_isub v0 (sg_iand (sg_iushr v0 1) 1431655765)) 858993459) (sg_iand (sg_iushr (sg_isub v0 (sg_iand (sg_iushr v0 1) 1431655765)) 2) 858993459)) 4)) 252645135) (sg_iushr (sg_iand (sg_iadd (sg_iadd (sg_iand (sg_isub v0 (sg_iand (sg_iushr v0 1) 1431655765)) 858993459) (sg_iand (sg_iushr (sg_isub v0 (sg_iand (sg_iushr v0 1) 1431655765)) 2) 858993459)) (sg_iushr (sg_iadd (sg_iand (sg_isub v0 (sg_iand (sg_iushr v0 1) 1431655765)) 858993459) (sg_iand (sg_iushr (sg_isub v0 (sg_iand (sg_iushr v0 1) 1431655765)) 2) 858993459)) 4)) 252645135) 8)) 16))] [(0, sg_iand (sg_iadd (sg_iadd (sg_iand (sg_iadd (sg_iadd (sg_iand (sg_isub v0 (sg_iand (sg_iushr v0 1) 1431655765)) 858993459) (sg_iand (sg_iushr (sg_isub v0 (sg_iand (sg_iushr v0 1) 1431655765)) 2) 858993459)) (sg_iushr (sg_iadd (sg_iand (sg_isub v0 (sg_iand (sg_iushr v0 1) 1431655765)) 858993459) (sg_iand (sg_iushr (sg_isub v0 (sg_iand (sg_iushr v0 1) 1431655765)) 2) 858993459)) 4)) 252645135) (sg_iushr (sg_iand (sg_iadd (sg_iadd (sg_iand (sg_isub v0 (sg_iand (sg_iushr v0 1) 1431655765)) 858993459) (sg_iand (sg_iushr (sg_isub v0 (sg_iand (sg_iushr v0 1) 1431655765)) 2) 858993459)) (sg_iushr (sg_iadd (sg_iand (sg_isub v0 (sg_iand (sg_iushr v0 1) 1431655765)) 858993459) (sg_iand (sg_iushr (sg_isub v0 (sg_iand (sg_iushr v0 1) 1431655765)) 2) 858993459)) 4)) 252645135) 8)) (sg_iushr (sg_iadd (sg_iand (sg_iadd (sg_iadd (sg_iand (sg_isub v0 (sg_iand (sg_iushr v0 1) 1431655765)) 858993459) (sg_iand (sg_iushr (sg_isub v0 (sg_iand (sg_iushr v0 1) 1431655765)) 2) 858993459)) (sg_iushr (sg_iadd (sg_iand (sg_isub v0 (sg_iand (sg_iushr v0 1) 1431655765)) 858993459) (sg_iand (sg_iushr (sg_isub v0 (sg_iand (sg_iushr v0 1) 1431655765)) 2) 858993459)) 4)) 252645135) (sg_iushr (sg_iand (sg_iadd (sg_iadd (sg_iand (sg_isub v0 (sg_iand (sg_iushr v0 1) 1431655765)) 858993459) (sg_iand (sg_iushr (sg_isub v0 (sg_iand (sg_iushr v0 1) 1431655765)) 2) 858993459)) (sg_iushr (sg_iadd (sg_iand (sg_isub v0 (sg_iand (sg_iushr v0 1) 1431655765)) 858993459) (sg_iand (sg_iushr (sg_isub v0 (sg_iand (sg_iushr v0 1) 1431655765)) 2) 858993459)) 4)) 252645135) 8)) 16)) 63)] G Q
  exact sg_ret (by decide +kernel) rfl (Or.inl rfl) h
theorem s_I_bitCount {lo d N : Nat} {v0 : Int} {G : SgM} {Q : Int → SgM → Prop} (h : Q (sg_ibc v0) G) : sg_Wp lo N d m_I_bitCount 0 [(0, 0, v0)] [] G Q := by
  exact g_I_bitCount_0 h
theorem g_T_signsOfPost_0 {d N : Nat} {v0 : Int} {G : SgM} {Q : Int → SgM → Prop} (h : (v0 = 0 → (Q 0 G)) ∧ (v0 ≠ 0 → ((v0 = 1 → (Q 1 G)) ∧ (v0 ≠ 1 → (Q 2 G))))) : sg_Wp 0 N d m_T_signsOfPost 0 [(0, 0, v0)] [] G Q := by
  refine sg_blk [(3, 0, 0, 0, 0)] (by decide +kernel) ?_
  refine And.intro rfl (?_)
  show sg_Wp 0 N d m_T_signsOfPost 1 [(0, 0, v0)] [(0, v0)] G Q
  refine sg_lksw (dflt := 33) (ps := #[(0, 27), (1, 30)]) (len := 27) (dt := 34) (ts := [(0, 28), (1, 31)]) (by decide +kernel) (by decide) (by decide) (by decide) ?_
  refine ⟨fun q2 => ?_, fun q2 => ?_⟩
  · refine sg_blk [(13, 0, 0, 50, 0)] (by decide +kernel) ?_
    show sg_Wp 0 N d m_T_signsOfPost 30 [(0, 0, v0)] [(3, 0)] G Q
    exact sg_aret (by decide +kernel) rfl rfl ((h.1 q2))
  · refine ⟨fun q1 => ?_, fun q1 => ?_⟩
    · refine sg_blk [(13, 0, 0, 52, 1)] (by decide +kernel) ?_
      show sg_Wp 0 N d m_T_signsOfPost 33 [(0, 0, v0)] [(3, 1)] G Q
      exact sg_aret (by decide +kernel) rfl rfl (((h.2 q2).1 q1))
    · refine sg_blk [(13, 0, 0, 54, 2)] (by decide +kernel) ?_
      show sg_Wp 0 N d m_T_signsOfPost 36 [(0, 0, v0)] [(3, 2)] G Q
      exact sg_aret (by decide +kernel) rfl rfl (((h.2 q2).2 q1))
theorem g_T_signsOfPerson_0 {d N : Nat} {v0 : Int} {G : SgM} {Q : Int → SgM → Prop} (h : (v0 = 0 → (Q 3 G)) ∧ (v0 ≠ 0 → ((v0 = 1 → (Q 0 G)) ∧ (v0 ≠ 1 → ((v0 = 2 → (Q 4 G)) ∧ (v0 ≠ 2 → ((v0 = 3 → (Q 5 G)) ∧ (v0 ≠ 3 → (Q 2 G))))))))) : sg_Wp 0 N d m_T_signsOfPerson 0 [(0, 0, v0)] [] G Q := by
  refine sg_blk [(3, 0, 0, 0, 0)] (by decide +kernel) ?_
  refine And.intro rfl (?_)
  show sg_Wp 0 N d m_T_signsOfPerson 1 [(0, 0, v0)] [(0, v0)] G Q
  refine sg_tsw (dflt := 43) (low := 0) (high := 3) (offs := #[31, 34, 37, 40]) (len := 31) (dt := 44) (ts := [32, 35, 38, 41]) (by decide +kernel) (by decide) (by decide) (by decide) ?_
  refine ⟨fun q4 => ?_, fun q4 => ?_⟩
  · refine sg_blk [(13, 0, 0, 56, 3)] (by decide +kernel) ?_
    show sg_Wp 0 N d m_T_signsOfPerson 34 [(0, 0, v0)] [(3, 3)] G Q
    exact sg_aret (by decide +kernel) rfl rfl ((h.1 q4))
  · refine ⟨fun q3 => ?_, fun q3 => ?_⟩
    · refine sg_blk [(13, 0, 0, 50, 0)] (by decide +kernel) ?_
      show sg_Wp 0 N d m_T_signsOfPerson 37 [(0, 0, v0)] [(3, 0)] G Q
      exact sg_aret (by decide +kernel) rfl rfl (((h.2 q4).1 q3))
    · refine ⟨fun q2 => ?_, fun q2 => ?_⟩
      · refine sg_blk [(13, 0, 0, 58, 4)] (by decide +kernel) ?_
        show sg_Wp 0 N d m_T_signsOfPerson 40 [(0, 0, v0)] [(3, 4)] G Q
        exact sg_aret (by decide +kernel) rfl rfl ((((h.2 q4).2 q3).1 q2))
      · refine ⟨fun q1 => ?_, fun q1 => ?_⟩
        · refine sg_blk [(13, 0, 0, 60, 5)] (by decide +kernel) ?_
          show sg_Wp 0 N d m_T_signsOfPerson 43 [(0, 0, v0)] [(3, 5)] G Q
          exact sg_aret (by decide +kernel) rfl rfl (((((h.2 q4).2 q3).2 q2).1 q1))
        · refine sg_blk [(13, 0, 0, 54, 2)] (by decide +kernel) ?_
          show sg_Wp 0 N d m_T_signsOfPerson 46 [(0, 0, v0)] [(3, 2)] G Q
          exact sg_aret (by decide +kernel) rfl rfl (((((h.2 q4).2 q3).2 q2).2 q1))
def sg_sgP (k : Int) : Int := if k = 0 then 0 else if k = 1 then 1 else 2
def sg_sgQ (k : Int) : Int := if k = 0 then 3 else if k = 1 then 0 else if k = 2 then 4 else if k = 3 then 5 else 2
theorem s_T_signsOfPost {d N : Nat} {v0 : Int} {G : SgM} {Q : Int → SgM → Prop} (h : Q (sg_sgP v0) G) : sg_Wp 0 N d m_T_signsOfPost 0 [(0, 0, v0)] [] G Q := by
  unfold sg_sgP at h
  refine g_T_signsOfPost_0 ⟨fun q => ?_, fun q => ⟨fun q2 => ?_, fun q2 => ?_⟩⟩
  · rw [if_pos q] at h; exact h
  · rw [if_neg q, if_pos q2] at h; exact h
  · rw [if_neg q, if_neg q2] at h; exact h
theorem s_T_signsOfPerson {d N : Nat} {v0 : Int} {G : SgM} {Q : Int → SgM → Prop} (h : Q (sg_sgQ v0) G) : sg_Wp 0 N d m_T_signsOfPerson 0 [(0, 0, v0)] [] G Q := by
  unfold sg_sgQ at h
  refine g_T_signsOfPerson_0 ⟨fun q => ?_, fun q => ⟨fun q2 => ?_, fun q2 => ⟨fun q3 => ?_, fun q3 => ⟨fun q4 => ?_, fun q4 => ?_⟩⟩⟩⟩
  · rw [if_pos q] at h; exact h
  · rw [if_neg q, if_pos q2] at h; exact h
  · rw [if_neg q, if_neg q2, if_pos q3] at h; exact h
  · rw [if_neg q, if_neg q2, if_neg q3, if_pos q4] at h; exact h
  · rw [if_neg q, if_neg q2, if_neg q3, if_neg q4] at h; exact h
theorem g_T_signs_1_0 {d N : Nat} (hN : 44 ≤ N) {v1 : Int} {G : SgM} {Q : Int → SgM → Prop} (h : ((G 1 0) = 0 → (Q (sg_sgQ v1) G)) ∧ (¬ ((G 1 0) = 0) → (Q (sg_sgP v1) G))) : sg_Wp 0 N (d + 1) m_T_signs 0 [(0, 2, 1), (1, 0, v1)] [] G Q := by
  refine sg_blk [(1, 0, 0, 0, 0), (15, 0, 7, 9, 0)] (by decide +kernel) ?_
  refine And.intro (Nat.le_of_ble_eq_true rfl) (And.intro (ce_1 hN) (?_))
  show sg_Wp 0 N (d + 1) m_T_signs 4 [(0, 2, 1), (1, 0, v1)] [(0, G 1 0)] G Q
  refine sg_if_eq (off := 10) (tgt := 14) (by decide +kernel) (by decide) ⟨fun q1 => ?_, fun q1 => ?_⟩
  · refine sg_blk [(3, 0, 0, 1, 0)] (by decide +kernel) ?_
    refine And.intro rfl (?_)
    show sg_Wp 0 N (d + 1) m_T_signs 15 [(0, 2, 1), (1, 0, v1)] [(0, v1)] G Q
    refine sg_callS (k := d) (y' := m_T_signsOfPerson) (av := [(0, v1)]) (rest := []) (by decide +kernel) cs_T_signsOfPerson ml_7_47 rfl (Nat.le_of_ble_eq_true rfl) (Nat.lt_succ_self d) (Nat.le_of_ble_eq_true rfl) rfl ?_
    show sg_Wp 0 N d m_T_signsOfPerson 0 [(0, 0, v1)] [] G _
    refine s_T_signsOfPerson ?_
    show sg_Wp 0 N (d + 1) m_T_signs 18 [(0, 2, 1), (1, 0, v1)] [(3, sg_sgQ v1)] G Q
    exact sg_aret (by decide +kernel) rfl rfl ((h.1 q1))
  · refine sg_blk [(3, 0, 0, 1, 0)] (by decide +kernel) ?_
    refine And.intro rfl (?_)
    show sg_Wp 0 N (d + 1) m_T_signs 8 [(0, 2, 1), (1, 0, v1)] [(0, v1)] G Q
    refine sg_callS (k := d) (y' := m_T_signsOfPost) (av := [(0, v1)]) (rest := []) (by decide +kernel) cs_T_signsOfPost ml_7_44 rfl (Nat.le_of_ble_eq_true rfl) (Nat.lt_succ_self d) (Nat.le_of_ble_eq_true rfl) rfl ?_
    show sg_Wp 0 N d m_T_signsOfPost 0 [(0, 0, v1)] [] G _
    refine s_T_signsOfPost ?_
    show sg_Wp 0 N (d + 1) m_T_signs 11 [(0, 2, 1), (1, 0, v1)] [(3, sg_sgP v1)] G Q
    refine sg_goto (off := 7) (tgt := 18) (by decide +kernel) (by decide) ?_
    exact sg_aret (by decide +kernel) rfl rfl ((h.2 q1))
theorem g_T_signs_3_0 {d N : Nat} (hN : 44 ≤ N) {v1 : Int} {G : SgM} {Q : Int → SgM → Prop} (h : ((G 3 0) = 0 → (Q (sg_sgQ v1) G)) ∧ (¬ ((G 3 0) = 0) → (Q (sg_sgP v1) G))) : sg_Wp 0 N (d + 1) m_T_signs 0 [(0, 2, 3), (1, 0, v1)] [] G Q := by
  refine sg_blk [(1, 0, 0, 0, 0), (15, 0, 7, 9, 0)] (by decide +kernel) ?_
  refine And.intro (Nat.le_of_ble_eq_true rfl) (And.intro (ce_3 hN) (?_))
  show sg_Wp 0 N (d + 1) m_T_signs 4 [(0, 2, 3), (1, 0, v1)] [(0, G 3 0)] G Q
  refine sg_if_eq (off := 10) (tgt := 14) (by decide +kernel) (by decide) ⟨fun q1 => ?_, fun q1 => ?_⟩
  · refine sg_blk [(3, 0, 0, 1, 0)] (by decide +kernel) ?_
    refine And.intro rfl (?_)
    show sg_Wp 0 N (d + 1) m_T_signs 15 [(0, 2, 3), (1, 0, v1)] [(0, v1)] G Q
    refine sg_callS (k := d) (y' := m_T_signsOfPerson) (av := [(0, v1)]) (rest := []) (by decide +kernel) cs_T_signsOfPerson ml_7_47 rfl (Nat.le_of_ble_eq_true rfl) (Nat.lt_succ_self d) (Nat.le_of_ble_eq_true rfl) rfl ?_
    show sg_Wp 0 N d m_T_signsOfPerson 0 [(0, 0, v1)] [] G _
    refine s_T_signsOfPerson ?_
    show sg_Wp 0 N (d + 1) m_T_signs 18 [(0, 2, 3), (1, 0, v1)] [(3, sg_sgQ v1)] G Q
    exact sg_aret (by decide +kernel) rfl rfl ((h.1 q1))
  · refine sg_blk [(3, 0, 0, 1, 0)] (by decide +kernel) ?_
    refine And.intro rfl (?_)
    show sg_Wp 0 N (d + 1) m_T_signs 8 [(0, 2, 3), (1, 0, v1)] [(0, v1)] G Q
    refine sg_callS (k := d) (y' := m_T_signsOfPost) (av := [(0, v1)]) (rest := []) (by decide +kernel) cs_T_signsOfPost ml_7_44 rfl (Nat.le_of_ble_eq_true rfl) (Nat.lt_succ_self d) (Nat.le_of_ble_eq_true rfl) rfl ?_
    show sg_Wp 0 N d m_T_signsOfPost 0 [(0, 0, v1)] [] G _
    refine s_T_signsOfPost ?_
    show sg_Wp 0 N (d + 1) m_T_signs 11 [(0, 2, 3), (1, 0, v1)] [(3, sg_sgP v1)] G Q
    refine sg_goto (off := 7) (tgt := 18) (by decide +kernel) (by decide) ?_
    exact sg_aret (by decide +kernel) rfl rfl ((h.2 q1))
theorem s_T_signs_1 {d N : Nat} (hN : 44 ≤ N) {v1 : Int} {G : SgM} {Q : Int → SgM → Prop} (hf : G 1 0 = 1) (h : Q (sg_sgP v1) G) : sg_Wp 0 N (d + 1) m_T_signs 0 [(0, 2, 1), (1, 0, v1)] [] G Q := by
  refine g_T_signs_1_0 hN ⟨fun q => ?_, fun q => ?_⟩
  · rw [hf] at q; cases q
  · exact h
theorem s_T_signs_3 {d N : Nat} (hN : 44 ≤ N) {v1 : Int} {G : SgM} {Q : Int → SgM → Prop} (hf : G 3 0 = 0) (h : Q (sg_sgQ v1) G) : sg_Wp 0 N (d + 1) m_T_signs 0 [(0, 2, 3), (1, 0, v1)] [] G Q := by
  refine g_T_signs_3_0 hN ⟨fun q => ?_, fun q => ?_⟩
  · exact h
  · exact absurd hf q
theorem g_S_coder_0 {s : Int} (hs : 0 ≤ s ∧ s < 6) {d N : Nat} {G : SgM} {Q : Int → SgM → Prop} (h : (0 ≤ s ∧ s < 6) ∧ (Q 0 G)) : sg_Wp 0 N d m_S_coder 0 [(0, 3, s)] [] G Q := by
  refine sg_blk [(60, 0, 0, 38, 0)] (by decide +kernel) ?_
  show sg_Wp 0 N d m_S_coder 3 [(0, 3, s)] [(0, 1)] G Q
  refine sg_if_eq (off := 10) (tgt := 13) (by decide +kernel) (by decide) ⟨fun q => absurd q (by decide), fun _ => ?_⟩
  refine sg_blk [(1, 0, 0, 0, 0), (63, 0, 0, 15, 0)] (by decide +kernel) ?_
  refine And.intro (Nat.le_of_ble_eq_true rfl) (And.intro h.1 (?_))
  show sg_Wp 0 N d m_S_coder 10 [(0, 3, s)] [(0, 0)] G Q
  refine sg_goto (off := 4) (tgt := 14) (by decide +kernel) (by decide) ?_
  exact sg_ret (by decide +kernel) rfl (Or.inr ⟨Or.inr rfl, by decide⟩) h.2
theorem g_S_isLatin1_0 {s : Int} (hs : 0 ≤ s ∧ s < 6) {d N : Nat} {G : SgM} {Q : Int → SgM → Prop} (h : (0 ≤ s ∧ s < 6) ∧ (Q 1 G)) : sg_Wp 0 N d m_S_isLatin1 0 [(0, 3, s)] [] G Q := by
  refine sg_blk [(60, 0, 0, 38, 0)] (by decide +kernel) ?_
  show sg_Wp 0 N d m_S_isLatin1 3 [(0, 3, s)] [(0, 1)] G Q
  refine sg_if_eq (off := 14) (tgt := 17) (by decide +kernel) (by decide) ⟨fun q => absurd q (by decide), fun _ => ?_⟩
  refine sg_blk [(1, 0, 0, 0, 0), (63, 0, 0, 15, 0)] (by decide +kernel) ?_
  refine And.intro (Nat.le_of_ble_eq_true rfl) (And.intro h.1 (?_))
  show sg_Wp 0 N d m_S_isLatin1 10 [(0, 3, s)] [(0, 0)] G Q
  refine sg_if_ne (off := 7) (tgt := 17) (by decide +kernel) (by decide) ⟨fun q => absurd q (by decide), fun _ => ?_⟩
  refine sg_blk [(7, 1, 0, 0, 0)] (by decide +kernel) ?_
  refine And.intro rfl (?_)
  show sg_Wp 0 N d m_S_isLatin1 14 [(0, 3, s)] [(0, 1)] G Q
  refine sg_goto (off := 4) (tgt := 18) (by decide +kernel) (by decide) ?_
  exact sg_ret (by decide +kernel) rfl (Or.inr ⟨Or.inl rfl, by decide⟩) h.2
theorem s_S_coder {d N : Nat} {s : Int} {G : SgM} {Q : Int → SgM → Prop} (hs : 0 ≤ s ∧ s < 6) (h : Q (0) G) : sg_Wp 0 N d m_S_coder 0 [(0, 3, s)] [] G Q := by
  exact g_S_coder_0 hs ⟨hs, h⟩
theorem s_S_isLatin1 {d N : Nat} {s : Int} {G : SgM} {Q : Int → SgM → Prop} (hs : 0 ≤ s ∧ s < 6) (h : Q (1) G) : sg_Wp 0 N d m_S_isLatin1 0 [(0, 3, s)] [] G Q := by
  exact g_S_isLatin1_0 hs ⟨hs, h⟩
theorem g_S_length_0 {s : Int} (hs : 0 ≤ s ∧ s < 6) {d N : Nat} {G : SgM} {Q : Int → SgM → Prop} (h : (0 ≤ s ∧ s < 6) ∧ (0 ≤ s ∧ s < 6) ∧ ((0 ≤ s ∧ s < 6) ∧ ((0 ≤ s ∧ s < 6) ∧ (Q (sg_ishr (sg_ll s) 0) G)))) : sg_Wp 0 N (d + 1) m_S_length 0 [(0, 3, s)] [] G Q := by
  refine sg_blk [(1, 0, 0, 0, 0), (62, 0, 0, 9, 0), (67, 0, 0, 0, 0), (1, 0, 0, 0, 0)] (by decide +kernel) ?_
  refine And.intro (Nat.le_of_ble_eq_true rfl) (And.intro h.1 (And.intro h.2.1 (And.intro (Nat.le_of_ble_eq_true rfl) (?_))))
  show sg_Wp 0 N (d + 1) m_S_length 6 [(0, 3, s)] [(3, s), (0, sg_ll s)] G Q
  refine sg_callT (k := d) (y' := m_S_coder) (av := []) (rest := [(0, sg_ll s)]) (b := s) (by decide +kernel) cv_S_coder ml_20_335 h.2.2.1 rfl rfl (Nat.le_of_ble_eq_true rfl) (Nat.lt_succ_self d) (Nat.le_of_ble_eq_true rfl) rfl ?_
  show sg_Wp 0 N d m_S_coder 0 [(0, 3, s)] [] G _
  refine s_S_coder h.2.2.2.1 ?_
  show sg_Wp 0 N (d + 1) m_S_length 9 [(0, 3, s)] [(0, 0), (0, sg_ll s)] G Q
  refine sg_blk [(42, 0, 0, 0, 0)] (by decide +kernel) ?_
  show sg_Wp 0 N (d + 1) m_S_length 10 [(0, 3, s)] [(0, sg_ishr (sg_ll s) 0)] G Q
  exact sg_ret (by decide +kernel) rfl (Or.inl rfl) h.2.2.2.2
theorem sg_shr0 (x : Int) : sg_ishr x 0 = (Int32.ofInt x).toInt := by
  unfold sg_ishr
  rw [show (Int32.ofInt 0 &&& 31 : Int32) = 0 from by decide]
  simp
theorem sg_ll32 {s : Int} (hs : 0 ≤ s ∧ s < 6) : (Int32.ofInt (sg_ll s)).toInt = sg_ll s := by
  have hl : ∀ i : Nat, i < 6 → sg_len.getD i 0 < 100 := by decide
  have := hl s.toNat (by omega)
  refine Int32.toInt_ofInt_of_le ?_ ?_ <;> unfold sg_ll <;> omega
theorem s_S_length {d N : Nat} {s : Int} {G : SgM} {Q : Int → SgM → Prop} (hs : 0 ≤ s ∧ s < 6) (h : Q (sg_ll s) G) : sg_Wp 0 N (d + 1) m_S_length 0 [(0, 3, s)] [] G Q := by
  refine g_S_length_0 hs ⟨hs, hs, hs, hs, ?_⟩
  rw [sg_shr0, sg_ll32 hs]
  exact h
theorem g_L_canEncode_0 {d N : Nat} {v0 : Int} {G : SgM} {Q : Int → SgM → Prop} (h : (v0 < 0 → (Q 0 G)) ∧ (¬ (v0 < 0) → ((255 < v0 → (Q 0 G)) ∧ (¬ (255 < v0) → (Q 1 G))))) : sg_Wp 0 N d m_L_canEncode 0 [(0, 0, v0)] [] G Q := by
  refine sg_blk [(3, 0, 0, 0, 0)] (by decide +kernel) ?_
  refine And.intro rfl (?_)
  show sg_Wp 0 N d m_L_canEncode 1 [(0, 0, v0)] [(0, v0)] G Q
  refine sg_if_lt (off := 14) (tgt := 15) (by decide +kernel) (by decide) ⟨fun q2 => ?_, fun q2 => ?_⟩
  · refine sg_blk [(7, 0, 0, 0, 0)] (by decide +kernel) ?_
    refine And.intro rfl (?_)
    show sg_Wp 0 N d m_L_canEncode 16 [(0, 0, v0)] [(0, 0)] G Q
    exact sg_ret (by decide +kernel) rfl (Or.inr ⟨Or.inl rfl, by decide⟩) ((h.1 q2))
  · refine sg_blk [(3, 0, 0, 0, 0), (9, 255, 0, 0, 0)] (by decide +kernel) ?_
    refine And.intro rfl (And.intro rfl (And.intro rfl (?_)))
    show sg_Wp 0 N d m_L_canEncode 8 [(0, 0, v0)] [(0, 255), (0, v0)] G Q
    refine sg_icmp_gt (off := 7) (tgt := 15) (by decide +kernel) (by decide) ⟨fun q1 => ?_, fun q1 => ?_⟩
    · refine sg_blk [(7, 0, 0, 0, 0)] (by decide +kernel) ?_
      refine And.intro rfl (?_)
      show sg_Wp 0 N d m_L_canEncode 16 [(0, 0, v0)] [(0, 0)] G Q
      exact sg_ret (by decide +kernel) rfl (Or.inr ⟨Or.inl rfl, by decide⟩) (((h.2 q2).1 q1))
    · refine sg_blk [(7, 1, 0, 0, 0)] (by decide +kernel) ?_
      refine And.intro rfl (?_)
      show sg_Wp 0 N d m_L_canEncode 12 [(0, 0, v0)] [(0, 1)] G Q
      refine sg_goto (off := 4) (tgt := 16) (by decide +kernel) (by decide) ?_
      exact sg_ret (by decide +kernel) rfl (Or.inr ⟨Or.inl rfl, by decide⟩) (((h.2 q2).2 q1))
theorem s_L_canEncode {d N : Nat} {v0 : Int} {G : SgM} {Q : Int → SgM → Prop} (h : Q (sg_bo (0 ≤ v0 ∧ v0 ≤ 255)) G) : sg_Wp 0 N d m_L_canEncode 0 [(0, 0, v0)] [] G Q := by
  refine g_L_canEncode_0 ⟨fun q => ?_, fun q => ⟨fun q2 => ?_, fun q2 => ?_⟩⟩
  · rw [sg_bo_f (by omega)] at h; exact h
  · rw [sg_bo_f (by omega)] at h; exact h
  · rw [sg_bo_t (by omega)] at h; exact h
theorem g_L_indexOfChar_0 {s : Int} (hs : 0 ≤ s ∧ s < 6) {d N : Nat} {v1 v2 v3 : Int} {G : SgM} {Q : Int → SgM → Prop} (h : sg_Wp 0 N d m_L_indexOfChar 7 [(0, 4, s), (3, 0, v3), (4, 0, sg_i2b v1), (5, 0, v2)] [] G Q) : sg_Wp 0 N d m_L_indexOfChar 0 [(0, 4, s), (1, 0, v1), (2, 0, v2), (3, 0, v3)] [] G Q := by
  refine sg_blk [(3, 0, 0, 1, 0), (54, 0, 0, 0, 0), (26, 0, 0, 4, 0), (3, 0, 0, 2, 0), (26, 0, 0, 5, 0)] (by decide +kernel) ?_
  refine And.intro rfl (And.intro rfl (And.intro rfl (And.intro rfl (?_))))
  show sg_Wp 0 N d m_L_indexOfChar 7 [(0, 4, s), (1, 0, v1), (2, 0, v2), (3, 0, v3), (4, 0, sg_i2b v1), (5, 0, v2)] [] G Q
  exact sg_Wp.keepk [0, 3, 4, 5] rfl h
theorem g_L_indexOfChar_7 {s : Int} (hs : 0 ≤ s ∧ s < 6) {d N : Nat} {v3 v4 v5 : Int} {G : SgM} {Q : Int → SgM → Prop} (h : (v3 ≤ v5 → (Q ((-1)) G)) ∧ (¬ (v3 ≤ v5) → (((0 ≤ s ∧ s < 6) ∧ 0 ≤ v5 ∧ v5 < sg_ll s) ∧ (((sg_lb s v5) ≠ v4 → (sg_Wp 0 N d m_L_indexOfChar 7 [(0, 4, s), (3, 0, v3), (4, 0, v4), (5, 0, sg_iadd v5 1)] [] G Q)) ∧ (¬ ((sg_lb s v5) ≠ v4) → (Q v5 G)))))) : sg_Wp 0 N d m_L_indexOfChar 7 [(0, 4, s), (3, 0, v3), (4, 0, v4), (5, 0, v5)] [] G Q := by
  refine sg_blk [(4, 0, 0, 5, 0), (3, 0, 0, 3, 0)] (by decide +kernel) ?_
  refine And.intro rfl (And.intro rfl (?_))
  show sg_Wp 0 N d m_L_indexOfChar 10 [(0, 4, s), (3, 0, v3), (4, 0, v4), (5, 0, v5)] [(0, v3), (0, v5)] G Q
  refine sg_icmp_ge (off := 21) (tgt := 31) (by decide +kernel) (by decide) ⟨fun q2 => ?_, fun q2 => ?_⟩
  · refine sg_blk [(7, (-1), 0, 0, 0)] (by decide +kernel) ?_
    refine And.intro rfl (?_)
    show sg_Wp 0 N d m_L_indexOfChar 32 [(0, 4, s), (3, 0, v3), (4, 0, v4), (5, 0, v5)] [(0, (-1))] G Q
    exact sg_ret (by decide +kernel) rfl (Or.inl rfl) ((h.1 q2))
  · refine sg_blk [(1, 0, 0, 0, 0), (4, 0, 0, 5, 0), (66, 0, 0, 0, 0), (4, 0, 0, 4, 0)] (by decide +kernel) ?_
    refine And.intro (Nat.le_of_ble_eq_true rfl) (And.intro rfl (And.intro (h.2 q2).1 (And.intro rfl (?_))))
    show sg_Wp 0 N d m_L_indexOfChar 19 [(0, 4, s), (3, 0, v3), (4, 0, v4), (5, 0, v5)] [(0, v4), (0, sg_lb s v5)] G Q
    refine sg_icmp_ne (off := 6) (tgt := 25) (by decide +kernel) (by decide) ⟨fun q1 => ?_, fun q1 => ?_⟩
    · refine sg_blk [(31, 1, 0, 5, 0)] (by decide +kernel) ?_
      refine And.intro rfl (?_)
      show sg_Wp 0 N d m_L_indexOfChar 28 [(0, 4, s), (3, 0, v3), (4, 0, v4), (5, 0, sg_iadd v5 1)] [] G Q
      refine sg_goto (off := -21) (tgt := 7) (by decide +kernel) (by decide) ?_
      exact ((h.2 q2).2.1 q1)
    · refine sg_blk [(4, 0, 0, 5, 0)] (by decide +kernel) ?_
      refine And.intro rfl (?_)
      show sg_Wp 0 N d m_L_indexOfChar 24 [(0, 4, s), (3, 0, v3), (4, 0, v4), (5, 0, v5)] [(0, v5)] G Q
      exact sg_ret (by decide +kernel) rfl (Or.inl rfl) (((h.2 q2).2.2 q1))
theorem g_L_indexOf_0 {s : Int} (hs : 0 ≤ s ∧ s < 6) {d N : Nat} {v1 v2 v3 : Int} {G : SgM} {Q : Int → SgM → Prop} (h : ((0 ≤ v1 ∧ v1 ≤ 255) → ((0 ≤ s ∧ s < 6) ∧ (((sg_mx v2 0) < (sg_mn v3 (sg_ll s)) → (sg_Wp 0 N d m_L_indexOfChar 0 [(0, 4, s), (1, 0, v1), (2, 0, sg_mx v2 0), (3, 0, sg_mn v3 (sg_ll s))] [] G (fun r1 G1 => Q r1 G1))) ∧ (¬ ((sg_mx v2 0) < (sg_mn v3 (sg_ll s))) → (Q ((-1)) G))))) ∧ (¬ (0 ≤ v1 ∧ v1 ≤ 255) → (Q ((-1)) G))) : sg_Wp 0 N (d + 1) m_L_indexOf 0 [(0, 4, s), (1, 0, v1), (2, 0, v2), (3, 0, v3)] [] G Q := by
  refine sg_blk [(3, 0, 0, 1, 0)] (by decide +kernel) ?_
  refine And.intro rfl (?_)
  show sg_Wp 0 N (d + 1) m_L_indexOf 1 [(0, 4, s), (1, 0, v1), (2, 0, v2), (3, 0, v3)] [(0, v1)] G Q
  refine sg_callS (k := d) (y' := m_L_canEncode) (av := [(0, v1)]) (rest := []) (by decide +kernel) cs_L_canEncode ml_21_88 rfl (Nat.le_of_ble_eq_true rfl) (Nat.lt_succ_self d) (Nat.le_of_ble_eq_true rfl) rfl ?_
  show sg_Wp 0 N d m_L_canEncode 0 [(0, 0, v1)] [] G _
  refine s_L_canEncode ?_
  show sg_Wp 0 N (d + 1) m_L_indexOf 4 [(0, 4, s), (1, 0, v1), (2, 0, v2), (3, 0, v3)] [(0, sg_bo (0 ≤ v1 ∧ v1 ≤ 255))] G Q
  refine sg_bif_ne (off := 5) (tgt := 9) (by decide +kernel) (by decide) ⟨fun q2 => ?_, fun q2 => ?_⟩
  · refine sg_blk [(3, 0, 0, 2, 0), (7, 0, 0, 0, 0)] (by decide +kernel) ?_
    refine And.intro rfl (And.intro rfl (?_))
    show sg_Wp 0 N (d + 1) m_L_indexOf 11 [(0, 4, s), (1, 0, v1), (2, 0, v2), (3, 0, v3)] [(0, 0), (0, v2)] G Q
    refine sg_mmax (by decide +kernel) mx_21_92 (Nat.succ_pos _) (Nat.le_of_ble_eq_true rfl) rfl ?_
    show sg_Wp 0 N (d + 1) m_L_indexOf 14 [(0, 4, s), (1, 0, v1), (2, 0, v2), (3, 0, v3)] [(0, sg_mx v2 0)] G Q
    refine sg_blk [(25, 0, 0, 2, 0), (3, 0, 0, 3, 0), (1, 0, 0, 0, 0), (67, 0, 0, 0, 0)] (by decide +kernel) ?_
    refine And.intro rfl (And.intro rfl (And.intro (Nat.le_of_ble_eq_true rfl) (And.intro (h.1 q2).1 (?_))))
    show sg_Wp 0 N (d + 1) m_L_indexOf 18 [(0, 4, s), (1, 0, v1), (2, 0, sg_mx v2 0), (3, 0, v3)] [(0, sg_ll s), (0, v3)] G Q
    refine sg_mmin (by decide +kernel) mx_21_38 (Nat.succ_pos _) (Nat.le_of_ble_eq_true rfl) rfl ?_
    show sg_Wp 0 N (d + 1) m_L_indexOf 21 [(0, 4, s), (1, 0, v1), (2, 0, sg_mx v2 0), (3, 0, v3)] [(0, sg_mn v3 (sg_ll s))] G Q
    refine sg_blk [(25, 0, 0, 3, 0), (3, 0, 0, 2, 0), (3, 0, 0, 3, 0)] (by decide +kernel) ?_
    refine And.intro rfl (And.intro rfl (And.intro rfl (?_)))
    show sg_Wp 0 N (d + 1) m_L_indexOf 24 [(0, 4, s), (1, 0, v1), (2, 0, sg_mx v2 0), (3, 0, sg_mn v3 (sg_ll s))] [(0, sg_mn v3 (sg_ll s)), (0, sg_mx v2 0)] G Q
    refine sg_icmp_lt (off := 5) (tgt := 29) (by decide +kernel) (by decide) ⟨fun q1 => ?_, fun q1 => ?_⟩
    · refine sg_blk [(1, 0, 0, 0, 0), (3, 0, 0, 1, 0), (3, 0, 0, 2, 0), (3, 0, 0, 3, 0)] (by decide +kernel) ?_
      refine And.intro (Nat.le_of_ble_eq_true rfl) (And.intro rfl (And.intro rfl (And.intro rfl (?_))))
      show sg_Wp 0 N (d + 1) m_L_indexOf 33 [(0, 4, s), (1, 0, v1), (2, 0, sg_mx v2 0), (3, 0, sg_mn v3 (sg_ll s))] [(0, sg_mn v3 (sg_ll s)), (0, sg_mx v2 0), (0, v1), (4, s)] G Q
      refine sg_callS (k := d) (y' := m_L_indexOfChar) (av := [(4, s), (0, v1), (0, sg_mx v2 0), (0, sg_mn v3 (sg_ll s))]) (rest := []) (by decide +kernel) cs_L_indexOfChar ml_21_95 rfl (Nat.le_of_ble_eq_true rfl) (Nat.lt_succ_self d) (Nat.le_of_ble_eq_true rfl) rfl ?_
      show sg_Wp 0 N d m_L_indexOfChar 0 [(0, 4, s), (1, 0, v1), (2, 0, sg_mx v2 0), (3, 0, sg_mn v3 (sg_ll s))] [] G _
      refine sg_Wp.mono (((h.1 q2).2.1 q1)) (fun r1 G1 hhr1 => ?_)
      show sg_Wp 0 N (d + 1) m_L_indexOf 36 [(0, 4, s), (1, 0, v1), (2, 0, sg_mx v2 0), (3, 0, sg_mn v3 (sg_ll s))] [(0, r1)] G1 Q
      exact sg_ret (by decide +kernel) rfl (Or.inl rfl) hhr1
    · refine sg_blk [(7, (-1), 0, 0, 0)] (by decide +kernel) ?_
      refine And.intro rfl (?_)
      show sg_Wp 0 N (d + 1) m_L_indexOf 28 [(0, 4, s), (1, 0, v1), (2, 0, sg_mx v2 0), (3, 0, sg_mn v3 (sg_ll s))] [(0, (-1))] G Q
      exact sg_ret (by decide +kernel) rfl (Or.inl rfl) (((h.1 q2).2.2 q1))
  · refine sg_blk [(7, (-1), 0, 0, 0)] (by decide +kernel) ?_
    refine And.intro rfl (?_)
    show sg_Wp 0 N (d + 1) m_L_indexOf 8 [(0, 4, s), (1, 0, v1), (2, 0, v2), (3, 0, v3)] [(0, (-1))] G Q
    exact sg_ret (by decide +kernel) rfl (Or.inl rfl) ((h.2 q2))
theorem g_S_indexOf2_0 {s : Int} (hs : 0 ≤ s ∧ s < 6) {d N : Nat} {v1 v2 : Int} {G : SgM} {Q : Int → SgM → Prop} (h : (0 ≤ s ∧ s < 6) ∧ ((0 ≤ s ∧ s < 6) ∧ ((0 ≤ s ∧ s < 6) ∧ ((0 ≤ s ∧ s < 6) ∧ ((0 ≤ s ∧ s < 6) ∧ (sg_Wp 0 N (d + 1) m_L_indexOf 0 [(0, 4, s), (1, 0, v1), (2, 0, v2), (3, 0, sg_ll s)] [] G (fun r1 G1 => Q r1 G1))))))) : sg_Wp 0 N (d + 2) m_S_indexOf2 0 [(0, 3, s), (1, 0, v1), (2, 0, v2)] [] G Q := by
  refine sg_blk [(1, 0, 0, 0, 0)] (by decide +kernel) ?_
  refine And.intro (Nat.le_of_ble_eq_true rfl) (?_)
  show sg_Wp 0 N (d + 2) m_S_indexOf2 1 [(0, 3, s), (1, 0, v1), (2, 0, v2)] [(3, s)] G Q
  refine sg_callT (k := (d + 1)) (y' := m_S_isLatin1) (av := []) (rest := []) (b := s) (by decide +kernel) cv_S_isLatin1 ml_20_492 h.1 rfl rfl (Nat.le_of_ble_eq_true rfl) (Nat.lt_succ_self (d + 1)) (Nat.le_of_ble_eq_true rfl) rfl ?_
  show sg_Wp 0 N (d + 1) m_S_isLatin1 0 [(0, 3, s)] [] G _
  refine s_S_isLatin1 h.2.1 ?_
  show sg_Wp 0 N (d + 2) m_S_indexOf2 4 [(0, 3, s), (1, 0, v1), (2, 0, v2)] [(0, 1)] G Q
  refine sg_if_eq (off := 19) (tgt := 23) (by decide +kernel) (by decide) ⟨fun q => absurd q (by decide), fun _ => ?_⟩
  refine sg_blk [(1, 0, 0, 0, 0), (62, 0, 0, 9, 0), (3, 0, 0, 1, 0), (3, 0, 0, 2, 0), (1, 0, 0, 0, 0)] (by decide +kernel) ?_
  refine And.intro (Nat.le_of_ble_eq_true rfl) (And.intro h.2.2.1 (And.intro rfl (And.intro rfl (And.intro (Nat.le_of_ble_eq_true rfl) (?_)))))
  show sg_Wp 0 N (d + 2) m_S_indexOf2 14 [(0, 3, s), (1, 0, v1), (2, 0, v2)] [(3, s), (0, v2), (0, v1), (4, s)] G Q
  refine sg_callT (k := (d + 1)) (y' := m_S_length) (av := []) (rest := [(0, v2), (0, v1), (4, s)]) (b := s) (by decide +kernel) cv_S_length ml_20_505 h.2.2.2.1 rfl rfl (Nat.le_of_ble_eq_true rfl) (Nat.lt_succ_self (d + 1)) (Nat.le_of_ble_eq_true rfl) rfl ?_
  show sg_Wp 0 N (d + 1) m_S_length 0 [(0, 3, s)] [] G _
  refine s_S_length h.2.2.2.2.1 ?_
  show sg_Wp 0 N (d + 2) m_S_indexOf2 17 [(0, 3, s), (1, 0, v1), (2, 0, v2)] [(0, sg_ll s), (0, v2), (0, v1), (4, s)] G Q
  refine sg_callS (k := (d + 1)) (y' := m_L_indexOf) (av := [(4, s), (0, v1), (0, v2), (0, sg_ll s)]) (rest := []) (by decide +kernel) cs_L_indexOf ml_20_637 rfl (Nat.le_of_ble_eq_true rfl) (Nat.lt_succ_self (d + 1)) (Nat.le_of_ble_eq_true rfl) rfl ?_
  show sg_Wp 0 N (d + 1) m_L_indexOf 0 [(0, 4, s), (1, 0, v1), (2, 0, v2), (3, 0, sg_ll s)] [] G _
  refine sg_Wp.mono h.2.2.2.2.2 (fun r1 G1 hhr1 => ?_)
  show sg_Wp 0 N (d + 2) m_S_indexOf2 20 [(0, 3, s), (1, 0, v1), (2, 0, v2)] [(0, r1)] G1 Q
  refine sg_goto (off := 16) (tgt := 36) (by decide +kernel) (by decide) ?_
  exact sg_ret (by decide +kernel) rfl (Or.inl rfl) hhr1
theorem g_S_indexOf1_0 {s : Int} (hs : 0 ≤ s ∧ s < 6) {d N : Nat} {v1 : Int} {G : SgM} {Q : Int → SgM → Prop} (h : (0 ≤ s ∧ s < 6) ∧ (sg_Wp 0 N d m_S_indexOf2 0 [(0, 3, s), (1, 0, v1), (2, 0, 0)] [] G (fun r1 G1 => Q r1 G1))) : sg_Wp 0 N (d + 1) m_S_indexOf1 0 [(0, 3, s), (1, 0, v1)] [] G Q := by
  refine sg_blk [(1, 0, 0, 0, 0), (3, 0, 0, 1, 0), (7, 0, 0, 0, 0)] (by decide +kernel) ?_
  refine And.intro (Nat.le_of_ble_eq_true rfl) (And.intro rfl (And.intro rfl (?_)))
  show sg_Wp 0 N (d + 1) m_S_indexOf1 3 [(0, 3, s), (1, 0, v1)] [(0, 0), (0, v1), (3, s)] G Q
  refine sg_callT (k := d) (y' := m_S_indexOf2) (av := [(0, v1), (0, 0)]) (rest := []) (b := s) (by decide +kernel) cv_S_indexOf2 ml_20_633 h.1 rfl rfl (Nat.le_of_ble_eq_true rfl) (Nat.lt_succ_self d) (Nat.le_of_ble_eq_true rfl) rfl ?_
  show sg_Wp 0 N d m_S_indexOf2 0 [(0, 3, s), (1, 0, v1), (2, 0, 0)] [] G _
  refine sg_Wp.mono h.2 (fun r1 G1 hhr1 => ?_)
  show sg_Wp 0 N (d + 1) m_S_indexOf1 6 [(0, 3, s), (1, 0, v1)] [(0, r1)] G1 Q
  exact sg_ret (by decide +kernel) rfl (Or.inl rfl) hhr1
theorem g_M_in_0 {d : Nat} {v0 v2 v4 : Int} {G : SgM} {Q : Int → SgM → Prop} (h : ((sg_lcmp v0 v2) < 0 → (Q 0 G)) ∧ (¬ ((sg_lcmp v0 v2) < 0) → ((0 < (sg_lcmp v0 v4) → (Q 0 G)) ∧ (¬ (0 < (sg_lcmp v0 v4)) → (Q 1 G))))) : sg_Wp 200 228 d m_M_in 0 [(0, 1, v0), (2, 1, v2), (4, 1, v4)] [] G Q := by
  refine sg_blk [(5, 0, 0, 0, 0), (5, 0, 0, 2, 0), (52, 0, 0, 0, 0)] (by decide +kernel) ?_
  refine And.intro rfl (And.intro rfl (?_))
  show sg_Wp 200 228 d m_M_in 3 [(0, 1, v0), (2, 1, v2), (4, 1, v4)] [(0, sg_lcmp v0 v2)] G Q
  refine sg_if_lt (off := 14) (tgt := 17) (by decide +kernel) (by decide) ⟨fun q2 => ?_, fun q2 => ?_⟩
  · refine sg_blk [(7, 0, 0, 0, 0)] (by decide +kernel) ?_
    refine And.intro rfl (?_)
    show sg_Wp 200 228 d m_M_in 18 [(0, 1, v0), (2, 1, v2), (4, 1, v4)] [(0, 0)] G Q
    exact sg_ret (by decide +kernel) rfl (Or.inr ⟨Or.inl rfl, by decide⟩) ((h.1 q2))
  · refine sg_blk [(5, 0, 0, 0, 0), (6, 0, 0, 4, 0), (52, 0, 0, 0, 0)] (by decide +kernel) ?_
    refine And.intro rfl (And.intro rfl (?_))
    show sg_Wp 200 228 d m_M_in 10 [(0, 1, v0), (2, 1, v2), (4, 1, v4)] [(0, sg_lcmp v0 v4)] G Q
    refine sg_if_gt (off := 7) (tgt := 17) (by decide +kernel) (by decide) ⟨fun q1 => ?_, fun q1 => ?_⟩
    · refine sg_blk [(7, 0, 0, 0, 0)] (by decide +kernel) ?_
      refine And.intro rfl (?_)
      show sg_Wp 200 228 d m_M_in 18 [(0, 1, v0), (2, 1, v2), (4, 1, v4)] [(0, 0)] G Q
      exact sg_ret (by decide +kernel) rfl (Or.inr ⟨Or.inl rfl, by decide⟩) (((h.2 q2).1 q1))
    · refine sg_blk [(7, 1, 0, 0, 0)] (by decide +kernel) ?_
      refine And.intro rfl (?_)
      show sg_Wp 200 228 d m_M_in 14 [(0, 1, v0), (2, 1, v2), (4, 1, v4)] [(0, 1)] G Q
      refine sg_goto (off := 4) (tgt := 18) (by decide +kernel) (by decide) ?_
      exact sg_ret (by decide +kernel) rfl (Or.inr ⟨Or.inl rfl, by decide⟩) (((h.2 q2).2 q1))
theorem s_M_in {d : Nat} {v0 v2 v4 : Int} {G : SgM} {Q : Int → SgM → Prop} (h : Q (sg_bo (v2 ≤ v0 ∧ v0 ≤ v4)) G) : sg_Wp 200 228 d m_M_in 0 [(0, 1, v0), (2, 1, v2), (4, 1, v4)] [] G Q := by
  have e : ∀ x y : Int, (sg_lcmp x y < 0 ↔ x < y) ∧ (0 < sg_lcmp x y ↔ y < x) := by
    intro x y
    unfold sg_lcmp
    by_cases c1 : y < x
    · rw [if_pos c1]; omega
    · rw [if_neg c1]
      by_cases c2 : x = y
      · rw [if_pos c2]; omega
      · rw [if_neg c2]; omega
  refine g_M_in_0 ⟨fun q => ?_, fun q => ⟨fun q2 => ?_, fun q2 => ?_⟩⟩
  · have := (e v0 v2).1.mp q
    rw [sg_bo_f (by omega)] at h; exact h
  · have := (e v0 v4).2.mp q2
    rw [sg_bo_f (by omega)] at h; exact h
  · have h1 : ¬ v0 < v2 := fun z => q ((e v0 v2).1.mpr z)
    have h2 : ¬ v4 < v0 := fun z => q2 ((e v0 v4).2.mpr z)
    rw [sg_bo_t (by omega)] at h; exact h
theorem g_M_isTwo_0 {d : Nat} {v0 : Int} {G : SgM} {Q : Int → SgM → Prop} (h : Q (sg_bo (0 ≤ v0 ∧ v0 ≤ 1)) G) : sg_Wp 200 228 (d + 1) m_M_isTwo 0 [(0, 0, v0)] [] G Q := by
  refine sg_blk [(3, 0, 0, 0, 0), (53, 0, 0, 0, 0), (10, 0, 0, 0, 0), (10, 0, 0, 1, 0)] (by decide +kernel) ?_
  refine And.intro rfl (?_)
  show sg_Wp 200 228 (d + 1) m_M_isTwo 4 [(0, 0, v0)] [(1, 1), (1, 0), (1, v0)] G Q
  refine sg_callS (k := d) (y' := m_M_in) (av := [(1, v0), (1, 0), (1, 1)]) (rest := []) (by decide +kernel) cs_M_in ml_11_98 rfl (Nat.le_of_ble_eq_true rfl) (Nat.lt_succ_self d) (Nat.le_of_ble_eq_true rfl) rfl ?_
  show sg_Wp 200 228 d m_M_in 0 [(0, 1, v0), (2, 1, 0), (4, 1, 1)] [] G _
  refine s_M_in ?_
  show sg_Wp 200 228 (d + 1) m_M_isTwo 7 [(0, 0, v0)] [(0, sg_bo (0 ≤ v0 ∧ v0 ≤ 1))] G Q
  exact sg_ret (by decide +kernel) rfl (Or.inr ⟨Or.inl rfl, sg_bo01 _⟩) h
theorem s_M_isTwo {d : Nat} {v0 : Int} {G : SgM} {Q : Int → SgM → Prop} (h : Q (sg_bo (0 ≤ v0 ∧ v0 ≤ 1)) G) : sg_Wp 200 228 (d + 1) m_M_isTwo 0 [(0, 0, v0)] [] G Q := by
  exact g_M_isTwo_0 h
theorem g_M_isSheet_0 {d : Nat} {v0 : Int} {G : SgM} {Q : Int → SgM → Prop} (h : Q (sg_bo (0 ≤ v0 ∧ v0 ≤ 3)) G) : sg_Wp 200 228 (d + 1) m_M_isSheet 0 [(0, 0, v0)] [] G Q := by
  refine sg_blk [(3, 0, 0, 0, 0), (53, 0, 0, 0, 0), (10, 0, 0, 0, 0), (12, 3, 0, 105, 0)] (by decide +kernel) ?_
  refine And.intro rfl (And.intro rfl (?_))
  show sg_Wp 200 228 (d + 1) m_M_isSheet 6 [(0, 0, v0)] [(1, 3), (1, 0), (1, v0)] G Q
  refine sg_callS (k := d) (y' := m_M_in) (av := [(1, v0), (1, 0), (1, 3)]) (rest := []) (by decide +kernel) cs_M_in ml_11_98 rfl (Nat.le_of_ble_eq_true rfl) (Nat.lt_succ_self d) (Nat.le_of_ble_eq_true rfl) rfl ?_
  show sg_Wp 200 228 d m_M_in 0 [(0, 1, v0), (2, 1, 0), (4, 1, 3)] [] G _
  refine s_M_in ?_
  show sg_Wp 200 228 (d + 1) m_M_isSheet 9 [(0, 0, v0)] [(0, sg_bo (0 ≤ v0 ∧ v0 ≤ 3))] G Q
  exact sg_ret (by decide +kernel) rfl (Or.inr ⟨Or.inl rfl, sg_bo01 _⟩) h
theorem s_M_isSheet {d : Nat} {v0 : Int} {G : SgM} {Q : Int → SgM → Prop} (h : Q (sg_bo (0 ≤ v0 ∧ v0 ≤ 3)) G) : sg_Wp 200 228 (d + 1) m_M_isSheet 0 [(0, 0, v0)] [] G Q := by
  exact g_M_isSheet_0 h
theorem g_M_isHour_0 {d : Nat} {v0 : Int} {G : SgM} {Q : Int → SgM → Prop} (h : Q (sg_bo (0 ≤ v0 ∧ v0 ≤ 23)) G) : sg_Wp 200 228 (d + 1) m_M_isHour 0 [(0, 0, v0)] [] G Q := by
  refine sg_blk [(3, 0, 0, 0, 0), (53, 0, 0, 0, 0), (10, 0, 0, 0, 0), (12, 23, 0, 156, 0)] (by decide +kernel) ?_
  refine And.intro rfl (And.intro rfl (?_))
  show sg_Wp 200 228 (d + 1) m_M_isHour 6 [(0, 0, v0)] [(1, 23), (1, 0), (1, v0)] G Q
  refine sg_callS (k := d) (y' := m_M_in) (av := [(1, v0), (1, 0), (1, 23)]) (rest := []) (by decide +kernel) cs_M_in ml_11_98 rfl (Nat.le_of_ble_eq_true rfl) (Nat.lt_succ_self d) (Nat.le_of_ble_eq_true rfl) rfl ?_
  show sg_Wp 200 228 d m_M_in 0 [(0, 1, v0), (2, 1, 0), (4, 1, 23)] [] G _
  refine s_M_in ?_
  show sg_Wp 200 228 (d + 1) m_M_isHour 9 [(0, 0, v0)] [(0, sg_bo (0 ≤ v0 ∧ v0 ≤ 23))] G Q
  exact sg_ret (by decide +kernel) rfl (Or.inr ⟨Or.inl rfl, sg_bo01 _⟩) h
theorem s_M_isHour {d : Nat} {v0 : Int} {G : SgM} {Q : Int → SgM → Prop} (h : Q (sg_bo (0 ≤ v0 ∧ v0 ≤ 23)) G) : sg_Wp 200 228 (d + 1) m_M_isHour 0 [(0, 0, v0)] [] G Q := by
  exact g_M_isHour_0 h
theorem g_M_no_0 {d : Nat} {v0 : Int} {G : SgM} {Q : Int → SgM → Prop} (h : Q (sg_lsub ((-9223372036854775808)) v0) G) : sg_Wp 200 228 d m_M_no 0 [(0, 0, v0)] [] G Q := by
  refine sg_blk [(12, (-9223372036854775808), 0, 96, 0), (3, 0, 0, 0, 0), (53, 0, 0, 0, 0), (45, 0, 0, 0, 0)] (by decide +kernel) ?_
  refine And.intro rfl (And.intro rfl (?_))
  show sg_Wp 200 228 d m_M_no 6 [(0, 0, v0)] [(1, sg_lsub ((-9223372036854775808)) v0)] G Q
  exact sg_lret (by decide +kernel) rfl h
theorem s_M_no {d : Nat} {v0 : Int} {G : SgM} {Q : Int → SgM → Prop} (h : Q (sg_lsub (-9223372036854775808) v0) G) : sg_Wp 200 228 d m_M_no 0 [(0, 0, v0)] [] G Q := by
  exact g_M_no_0 h
theorem g_M_isIn_0 {d : Nat} {v0 v1 : Int} {G : SgM} {Q : Int → SgM → Prop} (h : ((sg_iand (sg_ishr v0 v1) 1) ≠ 1 → (Q 0 G)) ∧ (¬ ((sg_iand (sg_ishr v0 v1) 1) ≠ 1) → (Q 1 G))) : sg_Wp 200 228 d m_M_isIn 0 [(0, 0, v0), (1, 0, v1)] [] G Q := by
  refine sg_blk [(3, 0, 0, 0, 0), (3, 0, 0, 1, 0), (42, 0, 0, 0, 0), (7, 1, 0, 0, 0), (38, 0, 0, 0, 0), (7, 1, 0, 0, 0)] (by decide +kernel) ?_
  refine And.intro rfl (And.intro rfl (And.intro rfl (And.intro rfl (?_))))
  show sg_Wp 200 228 d m_M_isIn 6 [(0, 0, v0), (1, 0, v1)] [(0, 1), (0, sg_iand (sg_ishr v0 v1) 1)] G Q
  refine sg_icmp_ne (off := 7) (tgt := 13) (by decide +kernel) (by decide) ⟨fun q1 => ?_, fun q1 => ?_⟩
  · refine sg_blk [(7, 0, 0, 0, 0)] (by decide +kernel) ?_
    refine And.intro rfl (?_)
    show sg_Wp 200 228 d m_M_isIn 14 [(0, 0, v0), (1, 0, v1)] [(0, 0)] G Q
    exact sg_ret (by decide +kernel) rfl (Or.inr ⟨Or.inl rfl, by decide⟩) ((h.1 q1))
  · refine sg_blk [(7, 1, 0, 0, 0)] (by decide +kernel) ?_
    refine And.intro rfl (?_)
    show sg_Wp 200 228 d m_M_isIn 10 [(0, 0, v0), (1, 0, v1)] [(0, 1)] G Q
    refine sg_goto (off := 4) (tgt := 14) (by decide +kernel) (by decide) ?_
    exact sg_ret (by decide +kernel) rfl (Or.inr ⟨Or.inl rfl, by decide⟩) ((h.2 q1))
theorem s_M_isIn {d : Nat} {v0 v1 : Int} {G : SgM} {Q : Int → SgM → Prop} (h : Q (sg_bo (sg_iand (sg_ishr v0 v1) 1 = 1)) G) : sg_Wp 200 228 d m_M_isIn 0 [(0, 0, v0), (1, 0, v1)] [] G Q := by
  refine g_M_isIn_0 ⟨fun q => ?_, fun q => ?_⟩
  · rw [sg_bo_f q] at h; exact h
  · rw [sg_bo_t (Decidable.byContradiction q)] at h; exact h
def sg_lss (a b : Int) : Int := if a < b then a else b
def sg_grt (a b : Int) : Int := if b < a then a else b
def sg_apt (a b : Int) : Int := if b < a then sg_isub a b else sg_isub b a
def sg_cut (f v : Int) : Int := if f = 0 then sg_i2b v else if f = 1 then sg_i2s v else v
def sg_fig (b l m : Int) : Int := if sg_iadd 48 l ≤ b ∧ b ≤ sg_iadd 48 m then sg_isub b 48 else -9
def sg_pof (k b : Int) : Int := if k = 0 then sg_fig b 0 9 else if k = 1 then sg_fig b 0 3 else if b = 59 then 0 else -9
def sg_qof (k b : Int) : Int := if k = 0 then (if b = 112 then 0 else if b = 99 then 1 else if b = 103 then 2 else -9) else if k = 1 then sg_fig b 0 9 else if k = 2 then (if b = 101 then 0 else if b = 119 then 1 else -9) else if k = 3 then sg_fig b 1 9 else if b = 59 then 0 else -9
theorem g_M_lesser_0 {d : Nat} {v0 v1 : Int} {G : SgM} {Q : Int → SgM → Prop} (h : (v1 ≤ v0 → (Q v1 G)) ∧ (¬ (v1 ≤ v0) → (Q v0 G))) : sg_Wp 200 228 d m_M_lesser 0 [(0, 0, v0), (1, 0, v1)] [] G Q := by
  refine sg_blk [(3, 0, 0, 0, 0), (3, 0, 0, 1, 0)] (by decide +kernel) ?_
  refine And.intro rfl (And.intro rfl (?_))
  show sg_Wp 200 228 d m_M_lesser 2 [(0, 0, v0), (1, 0, v1)] [(0, v1), (0, v0)] G Q
  refine sg_icmp_ge (off := 7) (tgt := 9) (by decide +kernel) (by decide) ⟨fun q1 => ?_, fun q1 => ?_⟩
  · refine sg_blk [(3, 0, 0, 1, 0)] (by decide +kernel) ?_
    refine And.intro rfl (?_)
    show sg_Wp 200 228 d m_M_lesser 10 [(0, 0, v0), (1, 0, v1)] [(0, v1)] G Q
    exact sg_ret (by decide +kernel) rfl (Or.inl rfl) ((h.1 q1))
  · refine sg_blk [(3, 0, 0, 0, 0)] (by decide +kernel) ?_
    refine And.intro rfl (?_)
    show sg_Wp 200 228 d m_M_lesser 6 [(0, 0, v0), (1, 0, v1)] [(0, v0)] G Q
    refine sg_goto (off := 4) (tgt := 10) (by decide +kernel) (by decide) ?_
    exact sg_ret (by decide +kernel) rfl (Or.inl rfl) ((h.2 q1))
theorem s_M_lesser {d : Nat} {v0 v1 : Int} {G : SgM} {Q : Int → SgM → Prop} (h : Q (sg_lss v0 v1) G) : sg_Wp 200 228 d m_M_lesser 0 [(0, 0, v0), (1, 0, v1)] [] G Q := by
  unfold sg_lss at h
  refine g_M_lesser_0 ⟨fun q => ?_, fun q => ?_⟩
  · rw [if_neg (by omega)] at h; exact h
  · rw [if_pos (by omega)] at h; exact h
theorem g_M_greater_0 {d : Nat} {v0 v1 : Int} {G : SgM} {Q : Int → SgM → Prop} (h : (v0 ≤ v1 → (Q v1 G)) ∧ (¬ (v0 ≤ v1) → (Q v0 G))) : sg_Wp 200 228 d m_M_greater 0 [(0, 0, v0), (1, 0, v1)] [] G Q := by
  refine sg_blk [(3, 0, 0, 0, 0), (3, 0, 0, 1, 0)] (by decide +kernel) ?_
  refine And.intro rfl (And.intro rfl (?_))
  show sg_Wp 200 228 d m_M_greater 2 [(0, 0, v0), (1, 0, v1)] [(0, v1), (0, v0)] G Q
  refine sg_icmp_le (off := 7) (tgt := 9) (by decide +kernel) (by decide) ⟨fun q1 => ?_, fun q1 => ?_⟩
  · refine sg_blk [(3, 0, 0, 1, 0)] (by decide +kernel) ?_
    refine And.intro rfl (?_)
    show sg_Wp 200 228 d m_M_greater 10 [(0, 0, v0), (1, 0, v1)] [(0, v1)] G Q
    exact sg_ret (by decide +kernel) rfl (Or.inl rfl) ((h.1 q1))
  · refine sg_blk [(3, 0, 0, 0, 0)] (by decide +kernel) ?_
    refine And.intro rfl (?_)
    show sg_Wp 200 228 d m_M_greater 6 [(0, 0, v0), (1, 0, v1)] [(0, v0)] G Q
    refine sg_goto (off := 4) (tgt := 10) (by decide +kernel) (by decide) ?_
    exact sg_ret (by decide +kernel) rfl (Or.inl rfl) ((h.2 q1))
theorem s_M_greater {d : Nat} {v0 v1 : Int} {G : SgM} {Q : Int → SgM → Prop} (h : Q (sg_grt v0 v1) G) : sg_Wp 200 228 d m_M_greater 0 [(0, 0, v0), (1, 0, v1)] [] G Q := by
  unfold sg_grt at h
  refine g_M_greater_0 ⟨fun q => ?_, fun q => ?_⟩
  · rw [if_neg (by omega)] at h; exact h
  · rw [if_pos (by omega)] at h; exact h
theorem g_M_apart_0 {d : Nat} {v0 v1 : Int} {G : SgM} {Q : Int → SgM → Prop} (h : (v0 ≤ v1 → (Q (sg_isub v1 v0) G)) ∧ (¬ (v0 ≤ v1) → (Q (sg_isub v0 v1) G))) : sg_Wp 200 228 d m_M_apart 0 [(0, 0, v0), (1, 0, v1)] [] G Q := by
  refine sg_blk [(3, 0, 0, 0, 0), (3, 0, 0, 1, 0)] (by decide +kernel) ?_
  refine And.intro rfl (And.intro rfl (?_))
  show sg_Wp 200 228 d m_M_apart 2 [(0, 0, v0), (1, 0, v1)] [(0, v1), (0, v0)] G Q
  refine sg_icmp_le (off := 9) (tgt := 11) (by decide +kernel) (by decide) ⟨fun q1 => ?_, fun q1 => ?_⟩
  · refine sg_blk [(3, 0, 0, 1, 0), (3, 0, 0, 0, 0), (33, 0, 0, 0, 0)] (by decide +kernel) ?_
    refine And.intro rfl (And.intro rfl (?_))
    show sg_Wp 200 228 d m_M_apart 14 [(0, 0, v0), (1, 0, v1)] [(0, sg_isub v1 v0)] G Q
    exact sg_ret (by decide +kernel) rfl (Or.inl rfl) ((h.1 q1))
  · refine sg_blk [(3, 0, 0, 0, 0), (3, 0, 0, 1, 0), (33, 0, 0, 0, 0)] (by decide +kernel) ?_
    refine And.intro rfl (And.intro rfl (?_))
    show sg_Wp 200 228 d m_M_apart 8 [(0, 0, v0), (1, 0, v1)] [(0, sg_isub v0 v1)] G Q
    refine sg_goto (off := 6) (tgt := 14) (by decide +kernel) (by decide) ?_
    exact sg_ret (by decide +kernel) rfl (Or.inl rfl) ((h.2 q1))
theorem s_M_apart {d : Nat} {v0 v1 : Int} {G : SgM} {Q : Int → SgM → Prop} (h : Q (sg_apt v0 v1) G) : sg_Wp 200 228 d m_M_apart 0 [(0, 0, v0), (1, 0, v1)] [] G Q := by
  unfold sg_apt at h
  refine g_M_apart_0 ⟨fun q => ?_, fun q => ?_⟩
  · rw [if_neg (by omega)] at h; exact h
  · rw [if_pos (by omega)] at h; exact h
theorem g_M_cut_0 {d : Nat} {v0 v1 : Int} {G : SgM} {Q : Int → SgM → Prop} (h : (v0 ≠ 0 → ((v0 ≠ 1 → (Q v1 G)) ∧ (¬ (v0 ≠ 1) → (Q (sg_i2s v1) G)))) ∧ (¬ (v0 ≠ 0) → (Q (sg_i2b v1) G))) : sg_Wp 200 228 d m_M_cut 0 [(0, 0, v0), (1, 0, v1)] [] G Q := by
  refine sg_blk [(3, 0, 0, 0, 0)] (by decide +kernel) ?_
  refine And.intro rfl (?_)
  show sg_Wp 200 228 d m_M_cut 1 [(0, 0, v0), (1, 0, v1)] [(0, v0)] G Q
  refine sg_if_ne (off := 8) (tgt := 9) (by decide +kernel) (by decide) ⟨fun q2 => ?_, fun q2 => ?_⟩
  · refine sg_blk [(3, 0, 0, 0, 0), (7, 1, 0, 0, 0)] (by decide +kernel) ?_
    refine And.intro rfl (And.intro rfl (?_))
    show sg_Wp 200 228 d m_M_cut 11 [(0, 0, v0), (1, 0, v1)] [(0, 1), (0, v0)] G Q
    refine sg_icmp_ne (off := 8) (tgt := 19) (by decide +kernel) (by decide) ⟨fun q1 => ?_, fun q1 => ?_⟩
    · refine sg_blk [(3, 0, 0, 1, 0)] (by decide +kernel) ?_
      refine And.intro rfl (?_)
      show sg_Wp 200 228 d m_M_cut 20 [(0, 0, v0), (1, 0, v1)] [(0, v1)] G Q
      exact sg_ret (by decide +kernel) rfl (Or.inl rfl) (((h.1 q2).1 q1))
    · refine sg_blk [(3, 0, 0, 1, 0), (55, 0, 0, 0, 0)] (by decide +kernel) ?_
      refine And.intro rfl (?_)
      show sg_Wp 200 228 d m_M_cut 16 [(0, 0, v0), (1, 0, v1)] [(0, sg_i2s v1)] G Q
      refine sg_goto (off := 4) (tgt := 20) (by decide +kernel) (by decide) ?_
      exact sg_ret (by decide +kernel) rfl (Or.inl rfl) (((h.1 q2).2 q1))
  · refine sg_blk [(3, 0, 0, 1, 0), (54, 0, 0, 0, 0)] (by decide +kernel) ?_
    refine And.intro rfl (?_)
    show sg_Wp 200 228 d m_M_cut 6 [(0, 0, v0), (1, 0, v1)] [(0, sg_i2b v1)] G Q
    refine sg_goto (off := 14) (tgt := 20) (by decide +kernel) (by decide) ?_
    exact sg_ret (by decide +kernel) rfl (Or.inl rfl) ((h.2 q2))
theorem s_M_cut {d : Nat} {v0 v1 : Int} {G : SgM} {Q : Int → SgM → Prop} (h : Q (sg_cut v0 v1) G) : sg_Wp 200 228 d m_M_cut 0 [(0, 0, v0), (1, 0, v1)] [] G Q := by
  unfold sg_cut at h
  refine g_M_cut_0 ⟨fun q => ⟨fun q2 => ?_, fun q2 => ?_⟩, fun q => ?_⟩
  · rw [if_neg q, if_neg q2] at h; exact h
  · rw [if_neg q, if_pos (Decidable.byContradiction q2)] at h; exact h
  · rw [if_pos (Decidable.byContradiction q)] at h; exact h
theorem g_M_figureOf_0 {d : Nat} {v0 v1 v2 : Int} {G : SgM} {Q : Int → SgM → Prop} (h : (((sg_iadd 48 v1) ≤ v0 ∧ v0 ≤ (sg_iadd 48 v2)) → (Q (sg_isub v0 48) G)) ∧ (¬ ((sg_iadd 48 v1) ≤ v0 ∧ v0 ≤ (sg_iadd 48 v2)) → (Q ((-9)) G))) : sg_Wp 200 228 (d + 1) m_M_figureOf 0 [(0, 0, v0), (1, 0, v1), (2, 0, v2)] [] G Q := by
  refine sg_blk [(3, 0, 0, 0, 0), (53, 0, 0, 0, 0), (8, 48, 0, 0, 0), (3, 0, 0, 1, 0), (32, 0, 0, 0, 0), (53, 0, 0, 0, 0), (8, 48, 0, 0, 0), (3, 0, 0, 2, 0), (32, 0, 0, 0, 0), (53, 0, 0, 0, 0)] (by decide +kernel) ?_
  refine And.intro rfl (And.intro rfl (And.intro rfl (And.intro rfl (And.intro rfl (And.intro rfl (And.intro rfl (?_)))))))
  show sg_Wp 200 228 (d + 1) m_M_figureOf 12 [(0, 0, v0), (1, 0, v1), (2, 0, v2)] [(1, sg_iadd 48 v2), (1, sg_iadd 48 v1), (1, v0)] G Q
  refine sg_callS (k := d) (y' := m_M_in) (av := [(1, v0), (1, sg_iadd 48 v1), (1, sg_iadd 48 v2)]) (rest := []) (by decide +kernel) cs_M_in ml_11_98 rfl (Nat.le_of_ble_eq_true rfl) (Nat.lt_succ_self d) (Nat.le_of_ble_eq_true rfl) rfl ?_
  show sg_Wp 200 228 d m_M_in 0 [(0, 1, v0), (2, 1, sg_iadd 48 v1), (4, 1, sg_iadd 48 v2)] [] G _
  refine s_M_in ?_
  show sg_Wp 200 228 (d + 1) m_M_figureOf 15 [(0, 0, v0), (1, 0, v1), (2, 0, v2)] [(0, sg_bo ((sg_iadd 48 v1) ≤ v0 ∧ v0 ≤ (sg_iadd 48 v2)))] G Q
  refine sg_bif_eq (off := 10) (tgt := 25) (by decide +kernel) (by decide) ⟨fun q1 => ?_, fun q1 => ?_⟩
  · refine sg_blk [(3, 0, 0, 0, 0), (8, 48, 0, 0, 0), (33, 0, 0, 0, 0)] (by decide +kernel) ?_
    refine And.intro rfl (And.intro rfl (And.intro rfl (?_)))
    show sg_Wp 200 228 (d + 1) m_M_figureOf 22 [(0, 0, v0), (1, 0, v1), (2, 0, v2)] [(0, sg_isub v0 48)] G Q
    refine sg_goto (off := 5) (tgt := 27) (by decide +kernel) (by decide) ?_
    exact sg_ret (by decide +kernel) rfl (Or.inl rfl) ((h.1 q1))
  · refine sg_blk [(8, (-9), 0, 0, 0)] (by decide +kernel) ?_
    refine And.intro rfl (And.intro rfl (?_))
    show sg_Wp 200 228 (d + 1) m_M_figureOf 27 [(0, 0, v0), (1, 0, v1), (2, 0, v2)] [(0, (-9))] G Q
    exact sg_ret (by decide +kernel) rfl (Or.inl rfl) ((h.2 q1))
theorem s_M_figureOf {d : Nat} {v0 v1 v2 : Int} {G : SgM} {Q : Int → SgM → Prop} (h : Q (sg_fig v0 v1 v2) G) : sg_Wp 200 228 (d + 1) m_M_figureOf 0 [(0, 0, v0), (1, 0, v1), (2, 0, v2)] [] G Q := by
  unfold sg_fig at h
  refine g_M_figureOf_0 ⟨fun q => ?_, fun q => ?_⟩
  · rw [if_pos q] at h; exact h
  · rw [if_neg q] at h; exact h
theorem g_M_postOf_0 {d : Nat} {v0 v1 : Int} {G : SgM} {Q : Int → SgM → Prop} (h : (v0 ≠ 0 → ((v0 ≠ 1 → ((v1 ≠ 59 → (Q ((-9)) G)) ∧ (¬ (v1 ≠ 59) → (Q 0 G)))) ∧ (¬ (v0 ≠ 1) → (Q (sg_fig v1 0 3) G)))) ∧ (¬ (v0 ≠ 0) → (Q (sg_fig v1 0 9) G))) : sg_Wp 200 228 (d + 2) m_M_postOf 0 [(0, 0, v0), (1, 0, v1)] [] G Q := by
  refine sg_blk [(3, 0, 0, 0, 0)] (by decide +kernel) ?_
  refine And.intro rfl (?_)
  show sg_Wp 200 228 (d + 2) m_M_postOf 1 [(0, 0, v0), (1, 0, v1)] [(0, v0)] G Q
  refine sg_if_ne (off := 13) (tgt := 14) (by decide +kernel) (by decide) ⟨fun q3 => ?_, fun q3 => ?_⟩
  · refine sg_blk [(3, 0, 0, 0, 0), (7, 1, 0, 0, 0)] (by decide +kernel) ?_
    refine And.intro rfl (And.intro rfl (?_))
    show sg_Wp 200 228 (d + 2) m_M_postOf 16 [(0, 0, v0), (1, 0, v1)] [(0, 1), (0, v0)] G Q
    refine sg_icmp_ne (off := 12) (tgt := 28) (by decide +kernel) (by decide) ⟨fun q2 => ?_, fun q2 => ?_⟩
    · refine sg_blk [(3, 0, 0, 1, 0), (8, 59, 0, 0, 0)] (by decide +kernel) ?_
      refine And.intro rfl (And.intro rfl (And.intro rfl (?_)))
      show sg_Wp 200 228 (d + 2) m_M_postOf 31 [(0, 0, v0), (1, 0, v1)] [(0, 59), (0, v1)] G Q
      refine sg_icmp_ne (off := 7) (tgt := 38) (by decide +kernel) (by decide) ⟨fun q1 => ?_, fun q1 => ?_⟩
      · refine sg_blk [(8, (-9), 0, 0, 0)] (by decide +kernel) ?_
        refine And.intro rfl (And.intro rfl (?_))
        show sg_Wp 200 228 (d + 2) m_M_postOf 40 [(0, 0, v0), (1, 0, v1)] [(0, (-9))] G Q
        exact sg_ret (by decide +kernel) rfl (Or.inl rfl) ((((h.1 q3).1 q2).1 q1))
      · refine sg_blk [(7, 0, 0, 0, 0)] (by decide +kernel) ?_
        refine And.intro rfl (?_)
        show sg_Wp 200 228 (d + 2) m_M_postOf 35 [(0, 0, v0), (1, 0, v1)] [(0, 0)] G Q
        refine sg_goto (off := 5) (tgt := 40) (by decide +kernel) (by decide) ?_
        exact sg_ret (by decide +kernel) rfl (Or.inl rfl) ((((h.1 q3).1 q2).2 q1))
    · refine sg_blk [(3, 0, 0, 1, 0), (7, 0, 0, 0, 0), (7, 3, 0, 0, 0)] (by decide +kernel) ?_
      refine And.intro rfl (And.intro rfl (And.intro rfl (?_)))
      show sg_Wp 200 228 (d + 2) m_M_postOf 22 [(0, 0, v0), (1, 0, v1)] [(0, 3), (0, 0), (0, v1)] G Q
      refine sg_callS (k := (d + 1)) (y' := m_M_figureOf) (av := [(0, v1), (0, 0), (0, 3)]) (rest := []) (by decide +kernel) cs_M_figureOf ml_11_131 rfl (Nat.le_of_ble_eq_true rfl) (Nat.lt_succ_self (d + 1)) (Nat.le_of_ble_eq_true rfl) rfl ?_
      show sg_Wp 200 228 (d + 1) m_M_figureOf 0 [(0, 0, v1), (1, 0, 0), (2, 0, 3)] [] G _
      refine s_M_figureOf ?_
      show sg_Wp 200 228 (d + 2) m_M_postOf 25 [(0, 0, v0), (1, 0, v1)] [(0, sg_fig v1 0 3)] G Q
      refine sg_goto (off := 15) (tgt := 40) (by decide +kernel) (by decide) ?_
      exact sg_ret (by decide +kernel) rfl (Or.inl rfl) (((h.1 q3).2 q2))
  · refine sg_blk [(3, 0, 0, 1, 0), (7, 0, 0, 0, 0), (8, 9, 0, 0, 0)] (by decide +kernel) ?_
    refine And.intro rfl (And.intro rfl (And.intro rfl (And.intro rfl (?_))))
    show sg_Wp 200 228 (d + 2) m_M_postOf 8 [(0, 0, v0), (1, 0, v1)] [(0, 9), (0, 0), (0, v1)] G Q
    refine sg_callS (k := (d + 1)) (y' := m_M_figureOf) (av := [(0, v1), (0, 0), (0, 9)]) (rest := []) (by decide +kernel) cs_M_figureOf ml_11_131 rfl (Nat.le_of_ble_eq_true rfl) (Nat.lt_succ_self (d + 1)) (Nat.le_of_ble_eq_true rfl) rfl ?_
    show sg_Wp 200 228 (d + 1) m_M_figureOf 0 [(0, 0, v1), (1, 0, 0), (2, 0, 9)] [] G _
    refine s_M_figureOf ?_
    show sg_Wp 200 228 (d + 2) m_M_postOf 11 [(0, 0, v0), (1, 0, v1)] [(0, sg_fig v1 0 9)] G Q
    refine sg_goto (off := 29) (tgt := 40) (by decide +kernel) (by decide) ?_
    exact sg_ret (by decide +kernel) rfl (Or.inl rfl) ((h.2 q3))
theorem s_M_postOf {d : Nat} {v0 v1 : Int} {G : SgM} {Q : Int → SgM → Prop} (h : Q (sg_pof v0 v1) G) : sg_Wp 200 228 (d + 2) m_M_postOf 0 [(0, 0, v0), (1, 0, v1)] [] G Q := by
  unfold sg_pof at h
  refine g_M_postOf_0 ⟨fun q => ⟨fun q2 => ⟨fun q3 => ?_, fun q3 => ?_⟩, fun q2 => ?_⟩, fun q => ?_⟩
  · rw [if_neg q, if_neg q2, if_neg q3] at h; exact h
  · rw [if_neg q, if_neg q2, if_pos (Decidable.byContradiction q3)] at h; exact h
  · rw [if_neg q, if_pos (Decidable.byContradiction q2)] at h; exact h
  · rw [if_pos (Decidable.byContradiction q)] at h; exact h
theorem g_M_personOf_0 {d : Nat} {v0 v1 : Int} {G : SgM} {Q : Int → SgM → Prop} (h : (v0 = 0 → ((v1 ≠ 112 → ((v1 ≠ 99 → ((v1 ≠ 103 → (Q ((-9)) G)) ∧ (¬ (v1 ≠ 103) → (Q 2 G)))) ∧ (¬ (v1 ≠ 99) → (Q 1 G)))) ∧ (¬ (v1 ≠ 112) → (Q 0 G)))) ∧ (v0 ≠ 0 → ((v0 = 1 → (Q (sg_fig v1 0 9) G)) ∧ (v0 ≠ 1 → ((v0 = 2 → ((v1 ≠ 101 → ((v1 ≠ 119 → (Q ((-9)) G)) ∧ (¬ (v1 ≠ 119) → (Q 1 G)))) ∧ (¬ (v1 ≠ 101) → (Q 0 G)))) ∧ (v0 ≠ 2 → ((v0 = 3 → (Q (sg_fig v1 1 9) G)) ∧ (v0 ≠ 3 → ((v1 ≠ 59 → (Q ((-9)) G)) ∧ (¬ (v1 ≠ 59) → (Q 0 G))))))))))) : sg_Wp 200 228 (d + 2) m_M_personOf 0 [(0, 0, v0), (1, 0, v1)] [] G Q := by
  refine sg_blk [(3, 0, 0, 0, 0)] (by decide +kernel) ?_
  refine And.intro rfl (?_)
  show sg_Wp 200 228 (d + 2) m_M_personOf 1 [(0, 0, v0), (1, 0, v1)] [(0, v0)] G Q
  refine sg_tsw (dflt := 103) (low := 0) (high := 3) (offs := #[31, 64, 72, 95]) (len := 31) (dt := 104) (ts := [32, 65, 73, 96]) (by decide +kernel) (by decide) (by decide) (by decide) ?_
  refine ⟨fun q10 => ?_, fun q10 => ?_⟩
  · refine sg_blk [(3, 0, 0, 1, 0), (8, 112, 0, 0, 0)] (by decide +kernel) ?_
    refine And.intro rfl (And.intro rfl (And.intro rfl (?_)))
    show sg_Wp 200 228 (d + 2) m_M_personOf 35 [(0, 0, v0), (1, 0, v1)] [(0, 112), (0, v1)] G Q
    refine sg_icmp_ne (off := 7) (tgt := 42) (by decide +kernel) (by decide) ⟨fun q3 => ?_, fun q3 => ?_⟩
    · refine sg_blk [(3, 0, 0, 1, 0), (8, 99, 0, 0, 0)] (by decide +kernel) ?_
      refine And.intro rfl (And.intro rfl (And.intro rfl (?_)))
      show sg_Wp 200 228 (d + 2) m_M_personOf 45 [(0, 0, v0), (1, 0, v1)] [(0, 99), (0, v1)] G Q
      refine sg_icmp_ne (off := 7) (tgt := 52) (by decide +kernel) (by decide) ⟨fun q2 => ?_, fun q2 => ?_⟩
      · refine sg_blk [(3, 0, 0, 1, 0), (8, 103, 0, 0, 0)] (by decide +kernel) ?_
        refine And.intro rfl (And.intro rfl (And.intro rfl (?_)))
        show sg_Wp 200 228 (d + 2) m_M_personOf 55 [(0, 0, v0), (1, 0, v1)] [(0, 103), (0, v1)] G Q
        refine sg_icmp_ne (off := 7) (tgt := 62) (by decide +kernel) (by decide) ⟨fun q1 => ?_, fun q1 => ?_⟩
        · refine sg_blk [(8, (-9), 0, 0, 0)] (by decide +kernel) ?_
          refine And.intro rfl (And.intro rfl (?_))
          show sg_Wp 200 228 (d + 2) m_M_personOf 64 [(0, 0, v0), (1, 0, v1)] [(0, (-9))] G Q
          exact sg_ret (by decide +kernel) rfl (Or.inl rfl) (((((h.1 q10).1 q3).1 q2).1 q1))
        · refine sg_blk [(7, 2, 0, 0, 0)] (by decide +kernel) ?_
          refine And.intro rfl (?_)
          show sg_Wp 200 228 (d + 2) m_M_personOf 59 [(0, 0, v0), (1, 0, v1)] [(0, 2)] G Q
          refine sg_goto (off := 5) (tgt := 64) (by decide +kernel) (by decide) ?_
          exact sg_ret (by decide +kernel) rfl (Or.inl rfl) (((((h.1 q10).1 q3).1 q2).2 q1))
      · refine sg_blk [(7, 1, 0, 0, 0)] (by decide +kernel) ?_
        refine And.intro rfl (?_)
        show sg_Wp 200 228 (d + 2) m_M_personOf 49 [(0, 0, v0), (1, 0, v1)] [(0, 1)] G Q
        refine sg_goto (off := 15) (tgt := 64) (by decide +kernel) (by decide) ?_
        exact sg_ret (by decide +kernel) rfl (Or.inl rfl) ((((h.1 q10).1 q3).2 q2))
    · refine sg_blk [(7, 0, 0, 0, 0)] (by decide +kernel) ?_
      refine And.intro rfl (?_)
      show sg_Wp 200 228 (d + 2) m_M_personOf 39 [(0, 0, v0), (1, 0, v1)] [(0, 0)] G Q
      refine sg_goto (off := 25) (tgt := 64) (by decide +kernel) (by decide) ?_
      exact sg_ret (by decide +kernel) rfl (Or.inl rfl) (((h.1 q10).2 q3))
  · refine ⟨fun q9 => ?_, fun q9 => ?_⟩
    · refine sg_blk [(3, 0, 0, 1, 0), (7, 0, 0, 0, 0), (8, 9, 0, 0, 0)] (by decide +kernel) ?_
      refine And.intro rfl (And.intro rfl (And.intro rfl (And.intro rfl (?_))))
      show sg_Wp 200 228 (d + 2) m_M_personOf 69 [(0, 0, v0), (1, 0, v1)] [(0, 9), (0, 0), (0, v1)] G Q
      refine sg_callS (k := (d + 1)) (y' := m_M_figureOf) (av := [(0, v1), (0, 0), (0, 9)]) (rest := []) (by decide +kernel) cs_M_figureOf ml_11_131 rfl (Nat.le_of_ble_eq_true rfl) (Nat.lt_succ_self (d + 1)) (Nat.le_of_ble_eq_true rfl) rfl ?_
      show sg_Wp 200 228 (d + 1) m_M_figureOf 0 [(0, 0, v1), (1, 0, 0), (2, 0, 9)] [] G _
      refine s_M_figureOf ?_
      show sg_Wp 200 228 (d + 2) m_M_personOf 72 [(0, 0, v0), (1, 0, v1)] [(0, sg_fig v1 0 9)] G Q
      exact sg_ret (by decide +kernel) rfl (Or.inl rfl) (((h.2 q10).1 q9))
    · refine ⟨fun q8 => ?_, fun q8 => ?_⟩
      · refine sg_blk [(3, 0, 0, 1, 0), (8, 101, 0, 0, 0)] (by decide +kernel) ?_
        refine And.intro rfl (And.intro rfl (And.intro rfl (?_)))
        show sg_Wp 200 228 (d + 2) m_M_personOf 76 [(0, 0, v0), (1, 0, v1)] [(0, 101), (0, v1)] G Q
        refine sg_icmp_ne (off := 7) (tgt := 83) (by decide +kernel) (by decide) ⟨fun q5 => ?_, fun q5 => ?_⟩
        · refine sg_blk [(3, 0, 0, 1, 0), (8, 119, 0, 0, 0)] (by decide +kernel) ?_
          refine And.intro rfl (And.intro rfl (And.intro rfl (?_)))
          show sg_Wp 200 228 (d + 2) m_M_personOf 86 [(0, 0, v0), (1, 0, v1)] [(0, 119), (0, v1)] G Q
          refine sg_icmp_ne (off := 7) (tgt := 93) (by decide +kernel) (by decide) ⟨fun q4 => ?_, fun q4 => ?_⟩
          · refine sg_blk [(8, (-9), 0, 0, 0)] (by decide +kernel) ?_
            refine And.intro rfl (And.intro rfl (?_))
            show sg_Wp 200 228 (d + 2) m_M_personOf 95 [(0, 0, v0), (1, 0, v1)] [(0, (-9))] G Q
            exact sg_ret (by decide +kernel) rfl (Or.inl rfl) ((((((h.2 q10).2 q9).1 q8).1 q5).1 q4))
          · refine sg_blk [(7, 1, 0, 0, 0)] (by decide +kernel) ?_
            refine And.intro rfl (?_)
            show sg_Wp 200 228 (d + 2) m_M_personOf 90 [(0, 0, v0), (1, 0, v1)] [(0, 1)] G Q
            refine sg_goto (off := 5) (tgt := 95) (by decide +kernel) (by decide) ?_
            exact sg_ret (by decide +kernel) rfl (Or.inl rfl) ((((((h.2 q10).2 q9).1 q8).1 q5).2 q4))
        · refine sg_blk [(7, 0, 0, 0, 0)] (by decide +kernel) ?_
          refine And.intro rfl (?_)
          show sg_Wp 200 228 (d + 2) m_M_personOf 80 [(0, 0, v0), (1, 0, v1)] [(0, 0)] G Q
          refine sg_goto (off := 15) (tgt := 95) (by decide +kernel) (by decide) ?_
          exact sg_ret (by decide +kernel) rfl (Or.inl rfl) (((((h.2 q10).2 q9).1 q8).2 q5))
      · refine ⟨fun q7 => ?_, fun q7 => ?_⟩
        · refine sg_blk [(3, 0, 0, 1, 0), (7, 1, 0, 0, 0), (8, 9, 0, 0, 0)] (by decide +kernel) ?_
          refine And.intro rfl (And.intro rfl (And.intro rfl (And.intro rfl (?_))))
          show sg_Wp 200 228 (d + 2) m_M_personOf 100 [(0, 0, v0), (1, 0, v1)] [(0, 9), (0, 1), (0, v1)] G Q
          refine sg_callS (k := (d + 1)) (y' := m_M_figureOf) (av := [(0, v1), (0, 1), (0, 9)]) (rest := []) (by decide +kernel) cs_M_figureOf ml_11_131 rfl (Nat.le_of_ble_eq_true rfl) (Nat.lt_succ_self (d + 1)) (Nat.le_of_ble_eq_true rfl) rfl ?_
          show sg_Wp 200 228 (d + 1) m_M_figureOf 0 [(0, 0, v1), (1, 0, 1), (2, 0, 9)] [] G _
          refine s_M_figureOf ?_
          show sg_Wp 200 228 (d + 2) m_M_personOf 103 [(0, 0, v0), (1, 0, v1)] [(0, sg_fig v1 1 9)] G Q
          exact sg_ret (by decide +kernel) rfl (Or.inl rfl) (((((h.2 q10).2 q9).2 q8).1 q7))
        · refine sg_blk [(3, 0, 0, 1, 0), (8, 59, 0, 0, 0)] (by decide +kernel) ?_
          refine And.intro rfl (And.intro rfl (And.intro rfl (?_)))
          show sg_Wp 200 228 (d + 2) m_M_personOf 107 [(0, 0, v0), (1, 0, v1)] [(0, 59), (0, v1)] G Q
          refine sg_icmp_ne (off := 7) (tgt := 114) (by decide +kernel) (by decide) ⟨fun q6 => ?_, fun q6 => ?_⟩
          · refine sg_blk [(8, (-9), 0, 0, 0)] (by decide +kernel) ?_
            refine And.intro rfl (And.intro rfl (?_))
            show sg_Wp 200 228 (d + 2) m_M_personOf 116 [(0, 0, v0), (1, 0, v1)] [(0, (-9))] G Q
            exact sg_ret (by decide +kernel) rfl (Or.inl rfl) ((((((h.2 q10).2 q9).2 q8).2 q7).1 q6))
          · refine sg_blk [(7, 0, 0, 0, 0)] (by decide +kernel) ?_
            refine And.intro rfl (?_)
            show sg_Wp 200 228 (d + 2) m_M_personOf 111 [(0, 0, v0), (1, 0, v1)] [(0, 0)] G Q
            refine sg_goto (off := 5) (tgt := 116) (by decide +kernel) (by decide) ?_
            exact sg_ret (by decide +kernel) rfl (Or.inl rfl) ((((((h.2 q10).2 q9).2 q8).2 q7).2 q6))
theorem s_M_personOf {d : Nat} {v0 v1 : Int} {G : SgM} {Q : Int → SgM → Prop} (h : Q (sg_qof v0 v1) G) : sg_Wp 200 228 (d + 2) m_M_personOf 0 [(0, 0, v0), (1, 0, v1)] [] G Q := by
  unfold sg_qof at h
  refine g_M_personOf_0 ⟨fun q => ⟨fun a => ⟨fun b => ⟨fun c => ?_, fun c => ?_⟩, fun b => ?_⟩, fun a => ?_⟩, fun q => ⟨fun q1 => ?_, fun q1 => ⟨fun q2 => ⟨fun a => ⟨fun b => ?_, fun b => ?_⟩, fun a => ?_⟩, fun q2 => ⟨fun q3 => ?_, fun q3 => ⟨fun a => ?_, fun a => ?_⟩⟩⟩⟩⟩ <;> simp_all
end
