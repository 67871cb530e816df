-- ===== PART A: goes FIRST, ahead of the names: the tables' words, and 'selects' of the private methods out of them =====
/-- a private method of a class that the tables say can be made, by its rows of tables_1 -/
def lw_okq (q : MethodName × Nat) : Prop := (q.1.cls ≠ "java/lang/invoke/MethodHandle" ∧ q.1.cls ≠ "java/lang/invoke/VarHandle") ∧ Cond.instantiable q.1.cls q.2 ∈ tables_1 ∧ Cond.privateMethod q.1 ∈ tables_1 ∧ Cond.instanceMethod q.1 ∈ tables_1
theorem lw_p0 : lw_okq (⟨"ConnectorRouter", "remember", "()V"⟩, 7) := ⟨⟨by decide +kernel, by decide +kernel⟩, List.mem_of_getElem? (i := 25) (by decide +kernel), List.mem_of_getElem? (i := 302) (by decide +kernel), List.mem_of_getElem? (i := 303) (by decide +kernel)⟩
theorem lw_p1 : lw_okq (⟨"ConnectorRouter$Canvas", "isBlocked", "(LConnectorRouter$Route;I)Z"⟩, 6) := ⟨⟨by decide +kernel, by decide +kernel⟩, List.mem_of_getElem? (i := 33) (by decide +kernel), List.mem_of_getElem? (i := 364) (by decide +kernel), List.mem_of_getElem? (i := 365) (by decide +kernel)⟩
theorem lw_p2 : lw_okq (⟨"ConnectorRouter$Route", "isInside", "(II)Z"⟩, 3) := ⟨⟨by decide +kernel, by decide +kernel⟩, List.mem_of_getElem? (i := 468) (by decide +kernel), List.mem_of_getElem? (i := 466) (by decide +kernel), List.mem_of_getElem? (i := 467) (by decide +kernel)⟩
theorem lw_p3 : lw_okq (⟨"ConnectorRouter$WayFinder", "prepare", "(LConnectorRouter$Canvas;I)V"⟩, 11) := ⟨⟨by decide +kernel, by decide +kernel⟩, List.mem_of_getElem? (i := 89) (by decide +kernel), List.mem_of_getElem? (i := 489) (by decide +kernel), List.mem_of_getElem? (i := 490) (by decide +kernel)⟩
theorem lw_p4 : lw_okq (⟨"ConnectorRouter$WayFinder", "restAtGoal", "(I)I"⟩, 11) := ⟨⟨by decide +kernel, by decide +kernel⟩, List.mem_of_getElem? (i := 89) (by decide +kernel), List.mem_of_getElem? (i := 547) (by decide +kernel), List.mem_of_getElem? (i := 548) (by decide +kernel)⟩
theorem lw_p5 : lw_okq (⟨"ConnectorRouter$WayFinder", "offer", "(II)V"⟩, 11) := ⟨⟨by decide +kernel, by decide +kernel⟩, List.mem_of_getElem? (i := 89) (by decide +kernel), List.mem_of_getElem? (i := 554) (by decide +kernel), List.mem_of_getElem? (i := 555) (by decide +kernel)⟩
theorem lw_p6 : lw_okq (⟨"ConnectorRouter$WayFinder", "goBackFrom", "(I)V"⟩, 11) := ⟨⟨by decide +kernel, by decide +kernel⟩, List.mem_of_getElem? (i := 89) (by decide +kernel), List.mem_of_getElem? (i := 571) (by decide +kernel), List.mem_of_getElem? (i := 572) (by decide +kernel)⟩
theorem lw_p7 : lw_okq (⟨"ConnectorRouter", "takeWay", "(II)Z"⟩, 7) := ⟨⟨by decide +kernel, by decide +kernel⟩, List.mem_of_getElem? (i := 25) (by decide +kernel), List.mem_of_getElem? (i := 586) (by decide +kernel), List.mem_of_getElem? (i := 587) (by decide +kernel)⟩
theorem lw_p8 : lw_okq (⟨"ConnectorRouter$WayFinder", "addCorner", "(II)V"⟩, 11) := ⟨⟨by decide +kernel, by decide +kernel⟩, List.mem_of_getElem? (i := 89) (by decide +kernel), List.mem_of_getElem? (i := 602) (by decide +kernel), List.mem_of_getElem? (i := 603) (by decide +kernel)⟩
theorem lw_p9 : lw_okq (⟨"ConnectorRouter$WayFinder", "nextDirection", "(II)I"⟩, 11) := ⟨⟨by decide +kernel, by decide +kernel⟩, List.mem_of_getElem? (i := 89) (by decide +kernel), List.mem_of_getElem? (i := 606) (by decide +kernel), List.mem_of_getElem? (i := 607) (by decide +kernel)⟩
theorem lw_p10 : lw_okq (⟨"ConnectorRouter$Bundle", "add", "(LConnectorRouter$Route;I)V"⟩, 7) := ⟨⟨by decide +kernel, by decide +kernel⟩, List.mem_of_getElem? (i := 174) (by decide +kernel), List.mem_of_getElem? (i := 740) (by decide +kernel), List.mem_of_getElem? (i := 741) (by decide +kernel)⟩
theorem lw_p11 : lw_okq (⟨"ConnectorRouter$Bundle", "nextWithoutLane", "()I"⟩, 7) := ⟨⟨by decide +kernel, by decide +kernel⟩, List.mem_of_getElem? (i := 174) (by decide +kernel), List.mem_of_getElem? (i := 751) (by decide +kernel), List.mem_of_getElem? (i := 752) (by decide +kernel)⟩
theorem lw_p12 : lw_okq (⟨"ConnectorRouter$Bundle", "collide", "(II)Z"⟩, 7) := ⟨⟨by decide +kernel, by decide +kernel⟩, List.mem_of_getElem? (i := 174) (by decide +kernel), List.mem_of_getElem? (i := 755) (by decide +kernel), List.mem_of_getElem? (i := 756) (by decide +kernel)⟩
theorem lw_p13 : lw_okq (⟨"ConnectorRouter$Bundle", "touchesReached", "(I)Z"⟩, 7) := ⟨⟨by decide +kernel, by decide +kernel⟩, List.mem_of_getElem? (i := 174) (by decide +kernel), List.mem_of_getElem? (i := 769) (by decide +kernel), List.mem_of_getElem? (i := 770) (by decide +kernel)⟩
theorem lw_p14 : lw_okq (⟨"ConnectorRouter$CommandText", "readWord", "()I"⟩, 7) := ⟨⟨by decide +kernel, by decide +kernel⟩, List.mem_of_getElem? (i := 202) (by decide +kernel), List.mem_of_getElem? (i := 969) (by decide +kernel), List.mem_of_getElem? (i := 970) (by decide +kernel)⟩
theorem lw_p15 : lw_okq (⟨"ConnectorRouter$CommandText", "skipBlanks", "()V"⟩, 7) := ⟨⟨by decide +kernel, by decide +kernel⟩, List.mem_of_getElem? (i := 202) (by decide +kernel), List.mem_of_getElem? (i := 973) (by decide +kernel), List.mem_of_getElem? (i := 974) (by decide +kernel)⟩
def lw_privs_1 : List (MethodName × Nat) := [(⟨"ConnectorRouter", "remember", "()V"⟩, 7), (⟨"ConnectorRouter$Canvas", "isBlocked", "(LConnectorRouter$Route;I)Z"⟩, 6), (⟨"ConnectorRouter$Route", "isInside", "(II)Z"⟩, 3), (⟨"ConnectorRouter$WayFinder", "prepare", "(LConnectorRouter$Canvas;I)V"⟩, 11), (⟨"ConnectorRouter$WayFinder", "restAtGoal", "(I)I"⟩, 11), (⟨"ConnectorRouter$WayFinder", "offer", "(II)V"⟩, 11), (⟨"ConnectorRouter$WayFinder", "goBackFrom", "(I)V"⟩, 11), (⟨"ConnectorRouter", "takeWay", "(II)Z"⟩, 7), (⟨"ConnectorRouter$WayFinder", "addCorner", "(II)V"⟩, 11), (⟨"ConnectorRouter$WayFinder", "nextDirection", "(II)I"⟩, 11), (⟨"ConnectorRouter$Bundle", "add", "(LConnectorRouter$Route;I)V"⟩, 7), (⟨"ConnectorRouter$Bundle", "nextWithoutLane", "()I"⟩, 7), (⟨"ConnectorRouter$Bundle", "collide", "(II)Z"⟩, 7), (⟨"ConnectorRouter$Bundle", "touchesReached", "(I)Z"⟩, 7), (⟨"ConnectorRouter$CommandText", "readWord", "()I"⟩, 7), (⟨"ConnectorRouter$CommandText", "skipBlanks", "()V"⟩, 7)]
theorem lw_r1 : ∀ q ∈ lw_privs_1, lw_okq q := List.forall_mem_cons.mpr ⟨lw_p0, List.forall_mem_cons.mpr ⟨lw_p1, List.forall_mem_cons.mpr ⟨lw_p2, List.forall_mem_cons.mpr ⟨lw_p3, List.forall_mem_cons.mpr ⟨lw_p4, List.forall_mem_cons.mpr ⟨lw_p5, List.forall_mem_cons.mpr ⟨lw_p6, List.forall_mem_cons.mpr ⟨lw_p7, List.forall_mem_cons.mpr ⟨lw_p8, List.forall_mem_cons.mpr ⟨lw_p9, List.forall_mem_cons.mpr ⟨lw_p10, List.forall_mem_cons.mpr ⟨lw_p11, List.forall_mem_cons.mpr ⟨lw_p12, List.forall_mem_cons.mpr ⟨lw_p13, List.forall_mem_cons.mpr ⟨lw_p14, List.forall_mem_cons.mpr ⟨lw_p15, fun _ h => absurd h List.not_mem_nil⟩⟩⟩⟩⟩⟩⟩⟩⟩⟩⟩⟩⟩⟩⟩⟩
theorem lw_p16 : lw_okq (⟨"ConnectorRouter$CommandText", "wordFrom", "(I)I"⟩, 7) := ⟨⟨by decide +kernel, by decide +kernel⟩, List.mem_of_getElem? (i := 202) (by decide +kernel), List.mem_of_getElem? (i := 977) (by decide +kernel), List.mem_of_getElem? (i := 978) (by decide +kernel)⟩
theorem lw_p17 : lw_okq (⟨"ConnectorRouter$CommandText", "spells", "(Ljava/lang/String;I)Z"⟩, 7) := ⟨⟨by decide +kernel, by decide +kernel⟩, List.mem_of_getElem? (i := 202) (by decide +kernel), List.mem_of_getElem? (i := 982) (by decide +kernel), List.mem_of_getElem? (i := 983) (by decide +kernel)⟩
theorem lw_p18 : lw_okq (⟨"ConnectorRouter$CommandText", "readNumber", "()I"⟩, 7) := ⟨⟨by decide +kernel, by decide +kernel⟩, List.mem_of_getElem? (i := 202) (by decide +kernel), List.mem_of_getElem? (i := 1018) (by decide +kernel), List.mem_of_getElem? (i := 1019) (by decide +kernel)⟩
theorem lw_p19 : lw_okq (⟨"ConnectorRouter$CommandText", "readSeparator", "()Z"⟩, 7) := ⟨⟨by decide +kernel, by decide +kernel⟩, List.mem_of_getElem? (i := 202) (by decide +kernel), List.mem_of_getElem? (i := 1022) (by decide +kernel), List.mem_of_getElem? (i := 1023) (by decide +kernel)⟩
theorem lw_p20 : lw_okq (⟨"ConnectorRouter", "carryOut", "(I[I)I"⟩, 7) := ⟨⟨by decide +kernel, by decide +kernel⟩, List.mem_of_getElem? (i := 25) (by decide +kernel), List.mem_of_getElem? (i := 1032) (by decide +kernel), List.mem_of_getElem? (i := 1033) (by decide +kernel)⟩
theorem lw_p21 : lw_okq (⟨"ConnectorRouterModel", "isNear", "(IIIII)Z"⟩, 26) := ⟨⟨by decide +kernel, by decide +kernel⟩, List.mem_of_getElem? (i := 1064) (by decide +kernel), List.mem_of_getElem? (i := 1156) (by decide +kernel), List.mem_of_getElem? (i := 1157) (by decide +kernel)⟩
theorem lw_p22 : lw_okq (⟨"ConnectorRouterModel", "side", "(II)I"⟩, 26) := ⟨⟨by decide +kernel, by decide +kernel⟩, List.mem_of_getElem? (i := 1064) (by decide +kernel), List.mem_of_getElem? (i := 1160) (by decide +kernel), List.mem_of_getElem? (i := 1161) (by decide +kernel)⟩
theorem lw_p23 : lw_okq (⟨"ConnectorRouterModel", "records", "()V"⟩, 26) := ⟨⟨by decide +kernel, by decide +kernel⟩, List.mem_of_getElem? (i := 1064) (by decide +kernel), List.mem_of_getElem? (i := 1164) (by decide +kernel), List.mem_of_getElem? (i := 1165) (by decide +kernel)⟩
theorem lw_p24 : lw_okq (⟨"ConnectorRouterModel", "copies", "(II)V"⟩, 26) := ⟨⟨by decide +kernel, by decide +kernel⟩, List.mem_of_getElem? (i := 1064) (by decide +kernel), List.mem_of_getElem? (i := 1168) (by decide +kernel), List.mem_of_getElem? (i := 1169) (by decide +kernel)⟩
theorem lw_p25 : lw_okq (⟨"ConnectorRouterModel", "lays", "(IIIII)V"⟩, 26) := ⟨⟨by decide +kernel, by decide +kernel⟩, List.mem_of_getElem? (i := 1064) (by decide +kernel), List.mem_of_getElem? (i := 1172) (by decide +kernel), List.mem_of_getElem? (i := 1173) (by decide +kernel)⟩
theorem lw_p26 : lw_okq (⟨"ConnectorRouterModel", "isBox", "(I)Z"⟩, 26) := ⟨⟨by decide +kernel, by decide +kernel⟩, List.mem_of_getElem? (i := 1064) (by decide +kernel), List.mem_of_getElem? (i := 1180) (by decide +kernel), List.mem_of_getElem? (i := 1181) (by decide +kernel)⟩
theorem lw_p27 : lw_okq (⟨"ConnectorRouterModel", "of", "(II)I"⟩, 26) := ⟨⟨by decide +kernel, by decide +kernel⟩, List.mem_of_getElem? (i := 1064) (by decide +kernel), List.mem_of_getElem? (i := 1187) (by decide +kernel), List.mem_of_getElem? (i := 1188) (by decide +kernel)⟩
theorem lw_p28 : lw_okq (⟨"ConnectorRouterModel", "isTouched", "(I)Z"⟩, 26) := ⟨⟨by decide +kernel, by decide +kernel⟩, List.mem_of_getElem? (i := 1064) (by decide +kernel), List.mem_of_getElem? (i := 1191) (by decide +kernel), List.mem_of_getElem? (i := 1192) (by decide +kernel)⟩
theorem lw_p29 : lw_okq (⟨"ConnectorRouterModel", "hasRoute", "(I)Z"⟩, 26) := ⟨⟨by decide +kernel, by decide +kernel⟩, List.mem_of_getElem? (i := 1064) (by decide +kernel), List.mem_of_getElem? (i := 1195) (by decide +kernel), List.mem_of_getElem? (i := 1196) (by decide +kernel)⟩
theorem lw_p30 : lw_okq (⟨"ConnectorRouterModel", "cornerX", "(II)I"⟩, 26) := ⟨⟨by decide +kernel, by decide +kernel⟩, List.mem_of_getElem? (i := 1064) (by decide +kernel), List.mem_of_getElem? (i := 1199) (by decide +kernel), List.mem_of_getElem? (i := 1200) (by decide +kernel)⟩
theorem lw_p31 : lw_okq (⟨"ConnectorRouterModel", "portOf", "(IIZI)I"⟩, 26) := ⟨⟨by decide +kernel, by decide +kernel⟩, List.mem_of_getElem? (i := 1064) (by decide +kernel), List.mem_of_getElem? (i := 1203) (by decide +kernel), List.mem_of_getElem? (i := 1204) (by decide +kernel)⟩
def lw_privs_2 : List (MethodName × Nat) := [(⟨"ConnectorRouter$CommandText", "wordFrom", "(I)I"⟩, 7), (⟨"ConnectorRouter$CommandText", "spells", "(Ljava/lang/String;I)Z"⟩, 7), (⟨"ConnectorRouter$CommandText", "readNumber", "()I"⟩, 7), (⟨"ConnectorRouter$CommandText", "readSeparator", "()Z"⟩, 7), (⟨"ConnectorRouter", "carryOut", "(I[I)I"⟩, 7), (⟨"ConnectorRouterModel", "isNear", "(IIIII)Z"⟩, 26), (⟨"ConnectorRouterModel", "side", "(II)I"⟩, 26), (⟨"ConnectorRouterModel", "records", "()V"⟩, 26), (⟨"ConnectorRouterModel", "copies", "(II)V"⟩, 26), (⟨"ConnectorRouterModel", "lays", "(IIIII)V"⟩, 26), (⟨"ConnectorRouterModel", "isBox", "(I)Z"⟩, 26), (⟨"ConnectorRouterModel", "of", "(II)I"⟩, 26), (⟨"ConnectorRouterModel", "isTouched", "(I)Z"⟩, 26), (⟨"ConnectorRouterModel", "hasRoute", "(I)Z"⟩, 26), (⟨"ConnectorRouterModel", "cornerX", "(II)I"⟩, 26), (⟨"ConnectorRouterModel", "portOf", "(IIZI)I"⟩, 26)]
theorem lw_r2 : ∀ q ∈ lw_privs_2, lw_okq q := List.forall_mem_cons.mpr ⟨lw_p16, List.forall_mem_cons.mpr ⟨lw_p17, List.forall_mem_cons.mpr ⟨lw_p18, List.forall_mem_cons.mpr ⟨lw_p19, List.forall_mem_cons.mpr ⟨lw_p20, List.forall_mem_cons.mpr ⟨lw_p21, List.forall_mem_cons.mpr ⟨lw_p22, List.forall_mem_cons.mpr ⟨lw_p23, List.forall_mem_cons.mpr ⟨lw_p24, List.forall_mem_cons.mpr ⟨lw_p25, List.forall_mem_cons.mpr ⟨lw_p26, List.forall_mem_cons.mpr ⟨lw_p27, List.forall_mem_cons.mpr ⟨lw_p28, List.forall_mem_cons.mpr ⟨lw_p29, List.forall_mem_cons.mpr ⟨lw_p30, List.forall_mem_cons.mpr ⟨lw_p31, fun _ h => absurd h List.not_mem_nil⟩⟩⟩⟩⟩⟩⟩⟩⟩⟩⟩⟩⟩⟩⟩⟩
theorem lw_p32 : lw_okq (⟨"ConnectorRouterModel", "cornerY", "(II)I"⟩, 26) := ⟨⟨by decide +kernel, by decide +kernel⟩, List.mem_of_getElem? (i := 1064) (by decide +kernel), List.mem_of_getElem? (i := 1207) (by decide +kernel), List.mem_of_getElem? (i := 1208) (by decide +kernel)⟩
theorem lw_p33 : lw_okq (⟨"ConnectorRouterModel", "blockerOf", "(II)I"⟩, 26) := ⟨⟨by decide +kernel, by decide +kernel⟩, List.mem_of_getElem? (i := 1064) (by decide +kernel), List.mem_of_getElem? (i := 1214) (by decide +kernel), List.mem_of_getElem? (i := 1215) (by decide +kernel)⟩
theorem lw_p34 : lw_okq (⟨"ConnectorRouterModel", "isPort", "(III)Z"⟩, 26) := ⟨⟨by decide +kernel, by decide +kernel⟩, List.mem_of_getElem? (i := 1064) (by decide +kernel), List.mem_of_getElem? (i := 1230) (by decide +kernel), List.mem_of_getElem? (i := 1231) (by decide +kernel)⟩
theorem lw_p35 : lw_okq (⟨"ConnectorRouterModel", "puts", "(III)V"⟩, 26) := ⟨⟨by decide +kernel, by decide +kernel⟩, List.mem_of_getElem? (i := 1064) (by decide +kernel), List.mem_of_getElem? (i := 1234) (by decide +kernel), List.mem_of_getElem? (i := 1235) (by decide +kernel)⟩
theorem lw_p36 : lw_okq (⟨"ConnectorRouterModel", "isLink", "(I)Z"⟩, 26) := ⟨⟨by decide +kernel, by decide +kernel⟩, List.mem_of_getElem? (i := 1064) (by decide +kernel), List.mem_of_getElem? (i := 1242) (by decide +kernel), List.mem_of_getElem? (i := 1243) (by decide +kernel)⟩
theorem lw_p37 : lw_okq (⟨"ConnectorRouterModel", "crossingsOf", "(II)I"⟩, 26) := ⟨⟨by decide +kernel, by decide +kernel⟩, List.mem_of_getElem? (i := 1064) (by decide +kernel), List.mem_of_getElem? (i := 1254) (by decide +kernel), List.mem_of_getElem? (i := 1255) (by decide +kernel)⟩
theorem lw_p38 : lw_okq (⟨"ConnectorRouterModel", "segments", "(I)I"⟩, 26) := ⟨⟨by decide +kernel, by decide +kernel⟩, List.mem_of_getElem? (i := 1064) (by decide +kernel), List.mem_of_getElem? (i := 1258) (by decide +kernel), List.mem_of_getElem? (i := 1259) (by decide +kernel)⟩
theorem lw_p39 : lw_okq (⟨"ConnectorRouterModel", "isFlat", "(II)Z"⟩, 26) := ⟨⟨by decide +kernel, by decide +kernel⟩, List.mem_of_getElem? (i := 1064) (by decide +kernel), List.mem_of_getElem? (i := 1262) (by decide +kernel), List.mem_of_getElem? (i := 1263) (by decide +kernel)⟩
theorem lw_p40 : lw_okq (⟨"ConnectorRouterModel", "lowX", "(II)I"⟩, 26) := ⟨⟨by decide +kernel, by decide +kernel⟩, List.mem_of_getElem? (i := 1064) (by decide +kernel), List.mem_of_getElem? (i := 1266) (by decide +kernel), List.mem_of_getElem? (i := 1267) (by decide +kernel)⟩
theorem lw_p41 : lw_okq (⟨"ConnectorRouterModel", "highX", "(II)I"⟩, 26) := ⟨⟨by decide +kernel, by decide +kernel⟩, List.mem_of_getElem? (i := 1064) (by decide +kernel), List.mem_of_getElem? (i := 1270) (by decide +kernel), List.mem_of_getElem? (i := 1271) (by decide +kernel)⟩
theorem lw_p42 : lw_okq (⟨"ConnectorRouterModel", "lowY", "(II)I"⟩, 26) := ⟨⟨by decide +kernel, by decide +kernel⟩, List.mem_of_getElem? (i := 1064) (by decide +kernel), List.mem_of_getElem? (i := 1274) (by decide +kernel), List.mem_of_getElem? (i := 1275) (by decide +kernel)⟩
theorem lw_p43 : lw_okq (⟨"ConnectorRouterModel", "highY", "(II)I"⟩, 26) := ⟨⟨by decide +kernel, by decide +kernel⟩, List.mem_of_getElem? (i := 1064) (by decide +kernel), List.mem_of_getElem? (i := 1278) (by decide +kernel), List.mem_of_getElem? (i := 1279) (by decide +kernel)⟩
theorem lw_p44 : lw_okq (⟨"ConnectorRouterModel", "finds", "(I)I"⟩, 26) := ⟨⟨by decide +kernel, by decide +kernel⟩, List.mem_of_getElem? (i := 1064) (by decide +kernel), List.mem_of_getElem? (i := 1290) (by decide +kernel), List.mem_of_getElem? (i := 1291) (by decide +kernel)⟩
theorem lw_p45 : lw_okq (⟨"ConnectorRouterModel", "bestOf", "(I)I"⟩, 26) := ⟨⟨by decide +kernel, by decide +kernel⟩, List.mem_of_getElem? (i := 1064) (by decide +kernel), List.mem_of_getElem? (i := 1294) (by decide +kernel), List.mem_of_getElem? (i := 1295) (by decide +kernel)⟩
theorem lw_p46 : lw_okq (⟨"ConnectorRouterModel", "makesGrid", "(I)V"⟩, 26) := ⟨⟨by decide +kernel, by decide +kernel⟩, List.mem_of_getElem? (i := 1064) (by decide +kernel), List.mem_of_getElem? (i := 1298) (by decide +kernel), List.mem_of_getElem? (i := 1299) (by decide +kernel)⟩
theorem lw_p47 : lw_okq (⟨"ConnectorRouterModel", "addsX", "(I)V"⟩, 26) := ⟨⟨by decide +kernel, by decide +kernel⟩, List.mem_of_getElem? (i := 1064) (by decide +kernel), List.mem_of_getElem? (i := 1302) (by decide +kernel), List.mem_of_getElem? (i := 1303) (by decide +kernel)⟩
def lw_privs_3 : List (MethodName × Nat) := [(⟨"ConnectorRouterModel", "cornerY", "(II)I"⟩, 26), (⟨"ConnectorRouterModel", "blockerOf", "(II)I"⟩, 26), (⟨"ConnectorRouterModel", "isPort", "(III)Z"⟩, 26), (⟨"ConnectorRouterModel", "puts", "(III)V"⟩, 26), (⟨"ConnectorRouterModel", "isLink", "(I)Z"⟩, 26), (⟨"ConnectorRouterModel", "crossingsOf", "(II)I"⟩, 26), (⟨"ConnectorRouterModel", "segments", "(I)I"⟩, 26), (⟨"ConnectorRouterModel", "isFlat", "(II)Z"⟩, 26), (⟨"ConnectorRouterModel", "lowX", "(II)I"⟩, 26), (⟨"ConnectorRouterModel", "highX", "(II)I"⟩, 26), (⟨"ConnectorRouterModel", "lowY", "(II)I"⟩, 26), (⟨"ConnectorRouterModel", "highY", "(II)I"⟩, 26), (⟨"ConnectorRouterModel", "finds", "(I)I"⟩, 26), (⟨"ConnectorRouterModel", "bestOf", "(I)I"⟩, 26), (⟨"ConnectorRouterModel", "makesGrid", "(I)V"⟩, 26), (⟨"ConnectorRouterModel", "addsX", "(I)V"⟩, 26)]
theorem lw_r3 : ∀ q ∈ lw_privs_3, lw_okq q := List.forall_mem_cons.mpr ⟨lw_p32, List.forall_mem_cons.mpr ⟨lw_p33, List.forall_mem_cons.mpr ⟨lw_p34, List.forall_mem_cons.mpr ⟨lw_p35, List.forall_mem_cons.mpr ⟨lw_p36, List.forall_mem_cons.mpr ⟨lw_p37, List.forall_mem_cons.mpr ⟨lw_p38, List.forall_mem_cons.mpr ⟨lw_p39, List.forall_mem_cons.mpr ⟨lw_p40, List.forall_mem_cons.mpr ⟨lw_p41, List.forall_mem_cons.mpr ⟨lw_p42, List.forall_mem_cons.mpr ⟨lw_p43, List.forall_mem_cons.mpr ⟨lw_p44, List.forall_mem_cons.mpr ⟨lw_p45, List.forall_mem_cons.mpr ⟨lw_p46, List.forall_mem_cons.mpr ⟨lw_p47, fun _ h => absurd h List.not_mem_nil⟩⟩⟩⟩⟩⟩⟩⟩⟩⟩⟩⟩⟩⟩⟩⟩
theorem lw_p48 : lw_okq (⟨"ConnectorRouterModel", "addsY", "(I)V"⟩, 26) := ⟨⟨by decide +kernel, by decide +kernel⟩, List.mem_of_getElem? (i := 1064) (by decide +kernel), List.mem_of_getElem? (i := 1306) (by decide +kernel), List.mem_of_getElem? (i := 1307) (by decide +kernel)⟩
theorem lw_p49 : lw_okq (⟨"ConnectorRouterModel", "findsCosts", "(I)V"⟩, 26) := ⟨⟨by decide +kernel, by decide +kernel⟩, List.mem_of_getElem? (i := 1064) (by decide +kernel), List.mem_of_getElem? (i := 1310) (by decide +kernel), List.mem_of_getElem? (i := 1311) (by decide +kernel)⟩
theorem lw_p50 : lw_okq (⟨"ConnectorRouterModel", "outer", "(II)I"⟩, 26) := ⟨⟨by decide +kernel, by decide +kernel⟩, List.mem_of_getElem? (i := 1064) (by decide +kernel), List.mem_of_getElem? (i := 1314) (by decide +kernel), List.mem_of_getElem? (i := 1315) (by decide +kernel)⟩
theorem lw_p51 : lw_okq (⟨"ConnectorRouterModel", "indexX", "(I)I"⟩, 26) := ⟨⟨by decide +kernel, by decide +kernel⟩, List.mem_of_getElem? (i := 1064) (by decide +kernel), List.mem_of_getElem? (i := 1318) (by decide +kernel), List.mem_of_getElem? (i := 1319) (by decide +kernel)⟩
theorem lw_p52 : lw_okq (⟨"ConnectorRouterModel", "indexY", "(I)I"⟩, 26) := ⟨⟨by decide +kernel, by decide +kernel⟩, List.mem_of_getElem? (i := 1064) (by decide +kernel), List.mem_of_getElem? (i := 1322) (by decide +kernel), List.mem_of_getElem? (i := 1323) (by decide +kernel)⟩
theorem lw_p53 : lw_okq (⟨"ConnectorRouterModel", "ending", "(II)I"⟩, 26) := ⟨⟨by decide +kernel, by decide +kernel⟩, List.mem_of_getElem? (i := 1064) (by decide +kernel), List.mem_of_getElem? (i := 1326) (by decide +kernel), List.mem_of_getElem? (i := 1327) (by decide +kernel)⟩
theorem lw_p54 : lw_okq (⟨"ConnectorRouterModel", "goingOn", "(III)I"⟩, 26) := ⟨⟨by decide +kernel, by decide +kernel⟩, List.mem_of_getElem? (i := 1064) (by decide +kernel), List.mem_of_getElem? (i := 1331) (by decide +kernel), List.mem_of_getElem? (i := 1332) (by decide +kernel)⟩
theorem lw_p55 : lw_okq (⟨"ConnectorRouterModel", "next", "(II)I"⟩, 26) := ⟨⟨by decide +kernel, by decide +kernel⟩, List.mem_of_getElem? (i := 1064) (by decide +kernel), List.mem_of_getElem? (i := 1335) (by decide +kernel), List.mem_of_getElem? (i := 1336) (by decide +kernel)⟩
theorem lw_p56 : lw_okq (⟨"ConnectorRouterModel", "stepLength", "(II)I"⟩, 26) := ⟨⟨by decide +kernel, by decide +kernel⟩, List.mem_of_getElem? (i := 1064) (by decide +kernel), List.mem_of_getElem? (i := 1339) (by decide +kernel), List.mem_of_getElem? (i := 1340) (by decide +kernel)⟩
theorem lw_p57 : lw_okq (⟨"ConnectorRouterModel", "point", "(II)V"⟩, 26) := ⟨⟨by decide +kernel, by decide +kernel⟩, List.mem_of_getElem? (i := 1064) (by decide +kernel), List.mem_of_getElem? (i := 1343) (by decide +kernel), List.mem_of_getElem? (i := 1344) (by decide +kernel)⟩
theorem lw_p58 : lw_okq (⟨"ConnectorRouterModel", "takes", "(II)Z"⟩, 26) := ⟨⟨by decide +kernel, by decide +kernel⟩, List.mem_of_getElem? (i := 1064) (by decide +kernel), List.mem_of_getElem? (i := 1347) (by decide +kernel), List.mem_of_getElem? (i := 1348) (by decide +kernel)⟩
theorem lw_p59 : lw_okq (⟨"ConnectorRouterModel", "routesThose", "(Z)I"⟩, 26) := ⟨⟨by decide +kernel, by decide +kernel⟩, List.mem_of_getElem? (i := 1064) (by decide +kernel), List.mem_of_getElem? (i := 1359) (by decide +kernel), List.mem_of_getElem? (i := 1360) (by decide +kernel)⟩
theorem lw_p60 : lw_okq (⟨"ConnectorRouterModel", "lengthOf", "(I)I"⟩, 26) := ⟨⟨by decide +kernel, by decide +kernel⟩, List.mem_of_getElem? (i := 1064) (by decide +kernel), List.mem_of_getElem? (i := 1375) (by decide +kernel), List.mem_of_getElem? (i := 1376) (by decide +kernel)⟩
theorem lw_p61 : lw_okq (⟨"ConnectorRouterModel", "isCorner", "(II)Z"⟩, 26) := ⟨⟨by decide +kernel, by decide +kernel⟩, List.mem_of_getElem? (i := 1064) (by decide +kernel), List.mem_of_getElem? (i := 1383) (by decide +kernel), List.mem_of_getElem? (i := 1384) (by decide +kernel)⟩
theorem lw_p62 : lw_okq (⟨"ConnectorRouterModel", "common", "(IIII)I"⟩, 26) := ⟨⟨by decide +kernel, by decide +kernel⟩, List.mem_of_getElem? (i := 1064) (by decide +kernel), List.mem_of_getElem? (i := 1399) (by decide +kernel), List.mem_of_getElem? (i := 1400) (by decide +kernel)⟩
theorem lw_p63 : lw_okq (⟨"ConnectorRouterModel", "bundles", "(I)I"⟩, 26) := ⟨⟨by decide +kernel, by decide +kernel⟩, List.mem_of_getElem? (i := 1064) (by decide +kernel), List.mem_of_getElem? (i := 1410) (by decide +kernel), List.mem_of_getElem? (i := 1411) (by decide +kernel)⟩
def lw_privs_4 : List (MethodName × Nat) := [(⟨"ConnectorRouterModel", "addsY", "(I)V"⟩, 26), (⟨"ConnectorRouterModel", "findsCosts", "(I)V"⟩, 26), (⟨"ConnectorRouterModel", "outer", "(II)I"⟩, 26), (⟨"ConnectorRouterModel", "indexX", "(I)I"⟩, 26), (⟨"ConnectorRouterModel", "indexY", "(I)I"⟩, 26), (⟨"ConnectorRouterModel", "ending", "(II)I"⟩, 26), (⟨"ConnectorRouterModel", "goingOn", "(III)I"⟩, 26), (⟨"ConnectorRouterModel", "next", "(II)I"⟩, 26), (⟨"ConnectorRouterModel", "stepLength", "(II)I"⟩, 26), (⟨"ConnectorRouterModel", "point", "(II)V"⟩, 26), (⟨"ConnectorRouterModel", "takes", "(II)Z"⟩, 26), (⟨"ConnectorRouterModel", "routesThose", "(Z)I"⟩, 26), (⟨"ConnectorRouterModel", "lengthOf", "(I)I"⟩, 26), (⟨"ConnectorRouterModel", "isCorner", "(II)Z"⟩, 26), (⟨"ConnectorRouterModel", "common", "(IIII)I"⟩, 26), (⟨"ConnectorRouterModel", "bundles", "(I)I"⟩, 26)]
theorem lw_r4 : ∀ q ∈ lw_privs_4, lw_okq q := List.forall_mem_cons.mpr ⟨lw_p48, List.forall_mem_cons.mpr ⟨lw_p49, List.forall_mem_cons.mpr ⟨lw_p50, List.forall_mem_cons.mpr ⟨lw_p51, List.forall_mem_cons.mpr ⟨lw_p52, List.forall_mem_cons.mpr ⟨lw_p53, List.forall_mem_cons.mpr ⟨lw_p54, List.forall_mem_cons.mpr ⟨lw_p55, List.forall_mem_cons.mpr ⟨lw_p56, List.forall_mem_cons.mpr ⟨lw_p57, List.forall_mem_cons.mpr ⟨lw_p58, List.forall_mem_cons.mpr ⟨lw_p59, List.forall_mem_cons.mpr ⟨lw_p60, List.forall_mem_cons.mpr ⟨lw_p61, List.forall_mem_cons.mpr ⟨lw_p62, List.forall_mem_cons.mpr ⟨lw_p63, fun _ h => absurd h List.not_mem_nil⟩⟩⟩⟩⟩⟩⟩⟩⟩⟩⟩⟩⟩⟩⟩⟩
theorem lw_p64 : lw_okq (⟨"ConnectorRouterModel", "collide", "(II)Z"⟩, 26) := ⟨⟨by decide +kernel, by decide +kernel⟩, List.mem_of_getElem? (i := 1064) (by decide +kernel), List.mem_of_getElem? (i := 1414) (by decide +kernel), List.mem_of_getElem? (i := 1415) (by decide +kernel)⟩
theorem lw_p65 : lw_okq (⟨"ConnectorRouterModel", "lays", "()I"⟩, 26) := ⟨⟨by decide +kernel, by decide +kernel⟩, List.mem_of_getElem? (i := 1064) (by decide +kernel), List.mem_of_getElem? (i := 1418) (by decide +kernel), List.mem_of_getElem? (i := 1419) (by decide +kernel)⟩
theorem lw_p66 : lw_okq (⟨"ConnectorRouterModel", "pullOf", "(I)I"⟩, 26) := ⟨⟨by decide +kernel, by decide +kernel⟩, List.mem_of_getElem? (i := 1064) (by decide +kernel), List.mem_of_getElem? (i := 1422) (by decide +kernel), List.mem_of_getElem? (i := 1423) (by decide +kernel)⟩
theorem lw_p67 : lw_okq (⟨"ConnectorRouterModel", "writes", "(I)V"⟩, 26) := ⟨⟨by decide +kernel, by decide +kernel⟩, List.mem_of_getElem? (i := 1064) (by decide +kernel), List.mem_of_getElem? (i := 1430) (by decide +kernel), List.mem_of_getElem? (i := 1431) (by decide +kernel)⟩
theorem lw_p68 : lw_okq (⟨"ConnectorRouterModel", "number", "(I)V"⟩, 26) := ⟨⟨by decide +kernel, by decide +kernel⟩, List.mem_of_getElem? (i := 1064) (by decide +kernel), List.mem_of_getElem? (i := 1434) (by decide +kernel), List.mem_of_getElem? (i := 1435) (by decide +kernel)⟩
theorem lw_p69 : lw_okq (⟨"ConnectorRouterModel", "commands", "(Z)I"⟩, 26) := ⟨⟨by decide +kernel, by decide +kernel⟩, List.mem_of_getElem? (i := 1064) (by decide +kernel), List.mem_of_getElem? (i := 1454) (by decide +kernel), List.mem_of_getElem? (i := 1455) (by decide +kernel)⟩
theorem lw_p70 : lw_okq (⟨"ConnectorRouterModel", "command", "(Z)I"⟩, 26) := ⟨⟨by decide +kernel, by decide +kernel⟩, List.mem_of_getElem? (i := 1064) (by decide +kernel), List.mem_of_getElem? (i := 1458) (by decide +kernel), List.mem_of_getElem? (i := 1459) (by decide +kernel)⟩
theorem lw_p71 : lw_okq (⟨"ConnectorRouterModel", "word", "()I"⟩, 26) := ⟨⟨by decide +kernel, by decide +kernel⟩, List.mem_of_getElem? (i := 1064) (by decide +kernel), List.mem_of_getElem? (i := 1462) (by decide +kernel), List.mem_of_getElem? (i := 1463) (by decide +kernel)⟩
theorem lw_p72 : lw_okq (⟨"ConnectorRouterModel", "here", "()I"⟩, 26) := ⟨⟨by decide +kernel, by decide +kernel⟩, List.mem_of_getElem? (i := 1064) (by decide +kernel), List.mem_of_getElem? (i := 1466) (by decide +kernel), List.mem_of_getElem? (i := 1467) (by decide +kernel)⟩
theorem lw_p73 : lw_okq (⟨"ConnectorRouterModel", "is", "(IIIIIIII)Z"⟩, 26) := ⟨⟨by decide +kernel, by decide +kernel⟩, List.mem_of_getElem? (i := 1064) (by decide +kernel), List.mem_of_getElem? (i := 1470) (by decide +kernel), List.mem_of_getElem? (i := 1471) (by decide +kernel)⟩
theorem lw_p74 : lw_okq (⟨"ConnectorRouterModel", "readsNumber", "()I"⟩, 26) := ⟨⟨by decide +kernel, by decide +kernel⟩, List.mem_of_getElem? (i := 1064) (by decide +kernel), List.mem_of_getElem? (i := 1474) (by decide +kernel), List.mem_of_getElem? (i := 1475) (by decide +kernel)⟩
theorem lw_p75 : lw_okq (⟨"ConnectorRouterModel", "note", "(J)V"⟩, 26) := ⟨⟨by decide +kernel, by decide +kernel⟩, List.mem_of_getElem? (i := 1064) (by decide +kernel), List.mem_of_getElem? (i := 1497) (by decide +kernel), List.mem_of_getElem? (i := 1498) (by decide +kernel)⟩
def lw_privs_5 : List (MethodName × Nat) := [(⟨"ConnectorRouterModel", "collide", "(II)Z"⟩, 26), (⟨"ConnectorRouterModel", "lays", "()I"⟩, 26), (⟨"ConnectorRouterModel", "pullOf", "(I)I"⟩, 26), (⟨"ConnectorRouterModel", "writes", "(I)V"⟩, 26), (⟨"ConnectorRouterModel", "number", "(I)V"⟩, 26), (⟨"ConnectorRouterModel", "commands", "(Z)I"⟩, 26), (⟨"ConnectorRouterModel", "command", "(Z)I"⟩, 26), (⟨"ConnectorRouterModel", "word", "()I"⟩, 26), (⟨"ConnectorRouterModel", "here", "()I"⟩, 26), (⟨"ConnectorRouterModel", "is", "(IIIIIIII)Z"⟩, 26), (⟨"ConnectorRouterModel", "readsNumber", "()I"⟩, 26), (⟨"ConnectorRouterModel", "note", "(J)V"⟩, 26)]
theorem lw_r5 : ∀ q ∈ lw_privs_5, lw_okq q := List.forall_mem_cons.mpr ⟨lw_p64, List.forall_mem_cons.mpr ⟨lw_p65, List.forall_mem_cons.mpr ⟨lw_p66, List.forall_mem_cons.mpr ⟨lw_p67, List.forall_mem_cons.mpr ⟨lw_p68, List.forall_mem_cons.mpr ⟨lw_p69, List.forall_mem_cons.mpr ⟨lw_p70, List.forall_mem_cons.mpr ⟨lw_p71, List.forall_mem_cons.mpr ⟨lw_p72, List.forall_mem_cons.mpr ⟨lw_p73, List.forall_mem_cons.mpr ⟨lw_p74, List.forall_mem_cons.mpr ⟨lw_p75, fun _ h => absurd h List.not_mem_nil⟩⟩⟩⟩⟩⟩⟩⟩⟩⟩⟩⟩
def lw_privs : List (MethodName × Nat) := lw_privs_1 ++ (lw_privs_2 ++ (lw_privs_3 ++ (lw_privs_4 ++ (lw_privs_5))))
def lw_tbl : List Cond := k2_sels lw_privs ++ tables_1
theorem lw_privs_ok : ∀ q ∈ lw_privs, lw_okq q := by
  show ∀ q ∈ lw_privs_1 ++ (lw_privs_2 ++ (lw_privs_3 ++ (lw_privs_4 ++ (lw_privs_5)))), lw_okq q
  exact List.forall_mem_append.mpr ⟨lw_r1, List.forall_mem_append.mpr ⟨lw_r2, List.forall_mem_append.mpr ⟨lw_r3, List.forall_mem_append.mpr ⟨lw_r4, lw_r5⟩⟩⟩⟩
def RX0 : String := "ConnectorRouter$Bundle"
def TX0 : u_T := fun k => match k with
  | 0 => ("ConnectorRouter$Bundle", "size", "I", false)
  | 1 => ("ConnectorRouter$Bundle", "own", "I", false)
  | 2 => ("ConnectorRouter$Bundle", "starts", "[I", true)
  | 3 => ("ConnectorRouter$Bundle", "ends", "[I", true)
  | 4 => ("ConnectorRouter$Bundle", "pulls", "[I", true)
  | 5 => ("ConnectorRouter$Bundle", "lanes", "[I", true)
  | _ => ("ConnectorRouter$Bundle", "reached", "[Z", true)
def tyX0 : Nat → FieldType := fun k => match k with
  | 0 => .int
  | 1 => .int
  | 2 => .array .int
  | 3 => .array .int
  | 4 => .array .int
  | 5 => .array .int
  | _ => .array .boolean
abbrev wsX00 : List Cond := u_ws RX0 TX0 7
theorem nmX0 : ∀ a, a < 7 → ∀ b, b < 7 → a ≠ b → (TX0 a).2.1 ≠ (TX0 b).2.1 := by decide +kernel
theorem tyX0_ok : ∀ k, k < 7 → parseFieldDescriptor (TX0 k).2.2.1 = some (tyX0 k) := by decide +kernel
abbrev cX0_init : ByteArray := prog_2_method_1_code
def yX0_init : MethodName := ⟨RX0, "<init>", "()V"⟩
abbrev cX0_gather : ByteArray := prog_2_method_2_code
def yX0_gather : MethodName := ⟨RX0, "gather", "(LConnectorRouter$Canvas;II)V"⟩
abbrev cX0_add : ByteArray := prog_2_method_3_code
def yX0_add : MethodName := ⟨RX0, "add", "(LConnectorRouter$Route;I)V"⟩
abbrev cX0_collide : ByteArray := prog_2_method_4_code
def yX0_collide : MethodName := ⟨RX0, "collide", "(II)Z"⟩
abbrev cX0_assignLanes : ByteArray := prog_2_method_5_code
def yX0_assignLanes : MethodName := ⟨RX0, "assignLanes", "()V"⟩
abbrev cX0_nextWithoutLane : ByteArray := prog_2_method_6_code
def yX0_nextWithoutLane : MethodName := ⟨RX0, "nextWithoutLane", "()I"⟩
abbrev cX0_ownLane : ByteArray := prog_2_method_7_code
def yX0_ownLane : MethodName := ⟨RX0, "ownLane", "()I"⟩
abbrev cX0_lanesOfOwn : ByteArray := prog_2_method_8_code
def yX0_lanesOfOwn : MethodName := ⟨RX0, "lanesOfOwn", "()I"⟩
abbrev cX0_touchesReached : ByteArray := prog_2_method_9_code
def yX0_touchesReached : MethodName := ⟨RX0, "touchesReached", "(I)Z"⟩
def RX1 : String := "ConnectorRouter$Canvas"
def TX1 : u_T := fun k => match k with
  | 0 => ("ConnectorRouter$Canvas", "boxes", "I", false)
  | 1 => ("ConnectorRouter$Canvas", "connectors", "I", false)
  | 2 => ("ConnectorRouter$Canvas", "penalty", "I", false)
  | 3 => ("ConnectorRouter$Canvas", "edges", "[I", true)
  | 4 => ("ConnectorRouter$Canvas", "ports", "[I", true)
  | _ => ("ConnectorRouter$Canvas", "routes", "[LConnectorRouter$Route;", true)
def tyX1 : Nat → FieldType := fun k => match k with
  | 0 => .int
  | 1 => .int
  | 2 => .int
  | 3 => .array .int
  | 4 => .array .int
  | _ => .array (.object "ConnectorRouter$Route")
abbrev wsX10 : List Cond := u_ws RX1 TX1 6
theorem nmX1 : ∀ a, a < 6 → ∀ b, b < 6 → a ≠ b → (TX1 a).2.1 ≠ (TX1 b).2.1 := by decide +kernel
theorem tyX1_ok : ∀ k, k < 6 → parseFieldDescriptor (TX1 k).2.2.1 = some (tyX1 k) := by decide +kernel
abbrev cX1_init : ByteArray := prog_3_method_1_code
def yX1_init : MethodName := ⟨RX1, "<init>", "()V"⟩
abbrev cX1_copyFrom : ByteArray := prog_3_method_2_code
def yX1_copyFrom : MethodName := ⟨RX1, "copyFrom", "(LConnectorRouter$Canvas;)V"⟩
abbrev cX1_isSound : ByteArray := prog_3_method_3_code
def yX1_isSound : MethodName := ⟨RX1, "isSound", "(IIII)Z"⟩
abbrev cX1_hasBox : ByteArray := prog_3_method_4_code
def yX1_hasBox : MethodName := ⟨RX1, "hasBox", "(I)Z"⟩
abbrev cX1_hasConnector : ByteArray := prog_3_method_5_code
def yX1_hasConnector : MethodName := ⟨RX1, "hasConnector", "(I)Z"⟩
abbrev cX1_edge : ByteArray := prog_3_method_6_code
def yX1_edge : MethodName := ⟨RX1, "edge", "(II)I"⟩
abbrev cX1_putBox : ByteArray := prog_3_method_7_code
def yX1_putBox : MethodName := ⟨RX1, "putBox", "(IIIII)V"⟩
abbrev cX1_isTooNear : ByteArray := prog_3_method_8_code
def yX1_isTooNear : MethodName := ⟨RX1, "isTooNear", "(IIIII)Z"⟩
abbrev cX1_firstBoxOn : ByteArray := prog_3_method_9_code
def yX1_firstBoxOn : MethodName := ⟨RX1, "firstBoxOn", "(IIII)I"⟩
abbrev cX1_hasPort : ByteArray := prog_3_method_10_code
def yX1_hasPort : MethodName := ⟨RX1, "hasPort", "(III)Z"⟩
abbrev cX1_putPort : ByteArray := prog_3_method_11_code
def yX1_putPort : MethodName := ⟨RX1, "putPort", "(IIIII)V"⟩
abbrev cX1_portDetail : ByteArray := prog_3_method_12_code
def yX1_portDetail : MethodName := ⟨RX1, "portDetail", "(II)I"⟩
abbrev cX1_portSide : ByteArray := prog_3_method_13_code
def yX1_portSide : MethodName := ⟨RX1, "portSide", "(II)I"⟩
abbrev cX1_portX : ByteArray := prog_3_method_14_code
def yX1_portX : MethodName := ⟨RX1, "portX", "(II)I"⟩
abbrev cX1_portY : ByteArray := prog_3_method_15_code
def yX1_portY : MethodName := ⟨RX1, "portY", "(II)I"⟩
abbrev cX1_connectorsAt : ByteArray := prog_3_method_16_code
def yX1_connectorsAt : MethodName := ⟨RX1, "connectorsAt", "(I)I"⟩
abbrev cX1_removeConnector : ByteArray := prog_3_method_17_code
def yX1_removeConnector : MethodName := ⟨RX1, "removeConnector", "(I)V"⟩
abbrev cX1_routeOf : ByteArray := prog_3_method_18_code
def yX1_routeOf : MethodName := ⟨RX1, "routeOf", "(I)LConnectorRouter$Route;"⟩
abbrev cX1_isTouched : ByteArray := prog_3_method_19_code
def yX1_isTouched : MethodName := ⟨RX1, "isTouched", "(I)Z"⟩
abbrev cX1_isBlocked : ByteArray := prog_3_method_20_code
def yX1_isBlocked : MethodName := ⟨RX1, "isBlocked", "(LConnectorRouter$Route;I)Z"⟩
abbrev cX1_touchedConnectors : ByteArray := prog_3_method_21_code
def yX1_touchedConnectors : MethodName := ⟨RX1, "touchedConnectors", "()I"⟩
abbrev cX1_connectorsWithoutRoute : ByteArray := prog_3_method_22_code
def yX1_connectorsWithoutRoute : MethodName := ⟨RX1, "connectorsWithoutRoute", "()I"⟩
abbrev cX1_costOfRoutes : ByteArray := prog_3_method_23_code
def yX1_costOfRoutes : MethodName := ⟨RX1, "costOfRoutes", "()I"⟩
abbrev cX1_crossingsOf : ByteArray := prog_3_method_24_code
def yX1_crossingsOf : MethodName := ⟨RX1, "crossingsOf", "(II)I"⟩
abbrev cX1_crossingsOfPairs : ByteArray := prog_3_method_25_code
def yX1_crossingsOfPairs : MethodName := ⟨RX1, "crossingsOfPairs", "()I"⟩
def RX2 : String := "ConnectorRouter$CommandText"
def TX2 : u_T := fun k => match k with
  | 0 => ("ConnectorRouter$CommandText", "length", "I", false)
  | 1 => ("ConnectorRouter$CommandText", "bytes", "[I", true)
  | 2 => ("ConnectorRouter$CommandText", "word", "I", false)
  | 3 => ("ConnectorRouter$CommandText", "numbers", "[I", true)
  | 4 => ("ConnectorRouter$CommandText", "cursor", "I", false)
  | 5 => ("ConnectorRouter$CommandText", "hasEnded", "Z", false)
  | _ => ("ConnectorRouter$CommandText", "fault", "I", false)
def tyX2 : Nat → FieldType := fun k => match k with
  | 0 => .int
  | 1 => .array .int
  | 2 => .int
  | 3 => .array .int
  | 4 => .int
  | 5 => .boolean
  | _ => .int
abbrev wsX20 : List Cond := u_ws RX2 TX2 7
theorem nmX2 : ∀ a, a < 7 → ∀ b, b < 7 → a ≠ b → (TX2 a).2.1 ≠ (TX2 b).2.1 := by decide +kernel
theorem tyX2_ok : ∀ k, k < 7 → parseFieldDescriptor (TX2 k).2.2.1 = some (tyX2 k) := by decide +kernel
abbrev cX2_init : ByteArray := prog_4_method_1_code
def yX2_init : MethodName := ⟨RX2, "<init>", "()V"⟩
abbrev cX2_append : ByteArray := prog_4_method_2_code
def yX2_append : MethodName := ⟨RX2, "append", "(I)V"⟩
abbrev cX2_findFault : ByteArray := prog_4_method_3_code
def yX2_findFault : MethodName := ⟨RX2, "findFault", "()I"⟩
abbrev cX2_rewind : ByteArray := prog_4_method_4_code
def yX2_rewind : MethodName := ⟨RX2, "rewind", "()V"⟩
abbrev cX2_readCommand : ByteArray := prog_4_method_5_code
def yX2_readCommand : MethodName := ⟨RX2, "readCommand", "()Z"⟩
abbrev cX2_skipBlanks : ByteArray := prog_4_method_6_code
def yX2_skipBlanks : MethodName := ⟨RX2, "skipBlanks", "()V"⟩
abbrev cX2_readWord : ByteArray := prog_4_method_7_code
def yX2_readWord : MethodName := ⟨RX2, "readWord", "()I"⟩
abbrev cX2_wordFrom : ByteArray := prog_4_method_8_code
def yX2_wordFrom : MethodName := ⟨RX2, "wordFrom", "(I)I"⟩
abbrev cX2_spells : ByteArray := prog_4_method_9_code
def yX2_spells : MethodName := ⟨RX2, "spells", "(Ljava/lang/String;I)Z"⟩
abbrev cX2_readNumber : ByteArray := prog_4_method_10_code
def yX2_readNumber : MethodName := ⟨RX2, "readNumber", "()I"⟩
abbrev cX2_readSeparator : ByteArray := prog_4_method_11_code
def yX2_readSeparator : MethodName := ⟨RX2, "readSeparator", "()Z"⟩
def RX3 : String := "ConnectorRouter$Direction"
def TX3 : u_T := fun k => match k with
  | _ => ("", "", "", false)
def tyX3 : Nat → FieldType := fun k => match k with
  | _ => .int
abbrev wsX30 : List Cond := u_ws RX3 TX3 0
theorem nmX3 : ∀ a, a < 0 → ∀ b, b < 0 → a ≠ b → (TX3 a).2.1 ≠ (TX3 b).2.1 := by decide +kernel
theorem tyX3_ok : ∀ k, k < 0 → parseFieldDescriptor (TX3 k).2.2.1 = some (tyX3 k) := by decide +kernel
abbrev cX3_opposite : ByteArray := prog_5_method_2_code
def yX3_opposite : MethodName := ⟨RX3, "opposite", "(I)I"⟩
abbrev cX3_isUpright : ByteArray := prog_5_method_3_code
def yX3_isUpright : MethodName := ⟨RX3, "isUpright", "(I)Z"⟩
abbrev cX3_stepX : ByteArray := prog_5_method_4_code
def yX3_stepX : MethodName := ⟨RX3, "stepX", "(I)I"⟩
abbrev cX3_stepY : ByteArray := prog_5_method_5_code
def yX3_stepY : MethodName := ⟨RX3, "stepY", "(I)I"⟩
def RX4 : String := "ConnectorRouter$Grid"
def TX4 : u_T := fun k => match k with
  | 0 => ("ConnectorRouter$Grid", "xs", "[I", true)
  | 1 => ("ConnectorRouter$Grid", "ys", "[I", true)
  | 2 => ("ConnectorRouter$Grid", "columns", "I", false)
  | 3 => ("ConnectorRouter$Grid", "rows", "I", false)
  | 4 => ("ConnectorRouter$Grid", "opensRight", "[Z", true)
  | _ => ("ConnectorRouter$Grid", "opensDown", "[Z", true)
def tyX4 : Nat → FieldType := fun k => match k with
  | 0 => .array .int
  | 1 => .array .int
  | 2 => .int
  | 3 => .int
  | 4 => .array .boolean
  | _ => .array .boolean
abbrev wsX40 : List Cond := u_ws RX4 TX4 6
theorem nmX4 : ∀ a, a < 6 → ∀ b, b < 6 → a ≠ b → (TX4 a).2.1 ≠ (TX4 b).2.1 := by decide +kernel
theorem tyX4_ok : ∀ k, k < 6 → parseFieldDescriptor (TX4 k).2.2.1 = some (tyX4 k) := by decide +kernel
abbrev cX4_init : ByteArray := prog_6_method_1_code
def yX4_init : MethodName := ⟨RX4, "<init>", "()V"⟩
abbrev cX4_clear : ByteArray := prog_6_method_2_code
def yX4_clear : MethodName := ⟨RX4, "clear", "()V"⟩
abbrev cX4_addLinesAround : ByteArray := prog_6_method_3_code
def yX4_addLinesAround : MethodName := ⟨RX4, "addLinesAround", "(LConnectorRouter$Canvas;)V"⟩
abbrev cX4_addLinesThrough : ByteArray := prog_6_method_4_code
def yX4_addLinesThrough : MethodName := ⟨RX4, "addLinesThrough", "(II)V"⟩
abbrev cX4_insert : ByteArray := prog_6_method_5_code
def yX4_insert : MethodName := ⟨RX4, "insert", "([III)I"⟩
abbrev cX4_joinNodes : ByteArray := prog_6_method_6_code
def yX4_joinNodes : MethodName := ⟨RX4, "joinNodes", "(LConnectorRouter$Canvas;)V"⟩
abbrev cX4_nodeAt : ByteArray := prog_6_method_7_code
def yX4_nodeAt : MethodName := ⟨RX4, "nodeAt", "(II)I"⟩
abbrev cX4_indexOf : ByteArray := prog_6_method_8_code
def yX4_indexOf : MethodName := ⟨RX4, "indexOf", "([III)I"⟩
abbrev cX4_neighbour : ByteArray := prog_6_method_9_code
def yX4_neighbour : MethodName := ⟨RX4, "neighbour", "(II)I"⟩
abbrev cX4_xOf : ByteArray := prog_6_method_10_code
def yX4_xOf : MethodName := ⟨RX4, "xOf", "(I)I"⟩
abbrev cX4_yOf : ByteArray := prog_6_method_11_code
def yX4_yOf : MethodName := ⟨RX4, "yOf", "(I)I"⟩
abbrev cX4_distance : ByteArray := prog_6_method_12_code
def yX4_distance : MethodName := ⟨RX4, "distance", "(II)I"⟩
def RX5 : String := "ConnectorRouter$History"
def TX5 : u_T := fun k => match k with
  | 0 => ("ConnectorRouter$History", "size", "I", false)
  | 1 => ("ConnectorRouter$History", "oldest", "I", false)
  | _ => ("ConnectorRouter$History", "kept", "[LConnectorRouter$Canvas;", true)
def tyX5 : Nat → FieldType := fun k => match k with
  | 0 => .int
  | 1 => .int
  | _ => .array (.object "ConnectorRouter$Canvas")
abbrev wsX50 : List Cond := u_ws RX5 TX5 3
theorem nmX5 : ∀ a, a < 3 → ∀ b, b < 3 → a ≠ b → (TX5 a).2.1 ≠ (TX5 b).2.1 := by decide +kernel
theorem tyX5_ok : ∀ k, k < 3 → parseFieldDescriptor (TX5 k).2.2.1 = some (tyX5 k) := by decide +kernel
abbrev cX5_init : ByteArray := prog_7_method_1_code
def yX5_init : MethodName := ⟨RX5, "<init>", "()V"⟩
abbrev cX5_keep : ByteArray := prog_7_method_2_code
def yX5_keep : MethodName := ⟨RX5, "keep", "(LConnectorRouter$Canvas;)V"⟩
abbrev cX5_restore : ByteArray := prog_7_method_3_code
def yX5_restore : MethodName := ⟨RX5, "restore", "(LConnectorRouter$Canvas;)V"⟩
def RX6 : String := "ConnectorRouter$Route"
def TX6 : u_T := fun k => match k with
  | 0 => ("ConnectorRouter$Route", "cost", "I", true)
  | 1 => ("ConnectorRouter$Route", "xs", "[I", true)
  | _ => ("ConnectorRouter$Route", "ys", "[I", true)
def tyX6 : Nat → FieldType := fun k => match k with
  | 0 => .int
  | 1 => .array .int
  | _ => .array .int
abbrev wsX60 : List Cond := u_ws RX6 TX6 3
theorem nmX6 : ∀ a, a < 3 → ∀ b, b < 3 → a ≠ b → (TX6 a).2.1 ≠ (TX6 b).2.1 := by decide +kernel
theorem tyX6_ok : ∀ k, k < 3 → parseFieldDescriptor (TX6 k).2.2.1 = some (tyX6 k) := by decide +kernel
abbrev cX6_init : ByteArray := prog_8_method_1_code
def yX6_init : MethodName := ⟨RX6, "<init>", "(I[I[I)V"⟩
abbrev cX6_corners : ByteArray := prog_8_method_2_code
def yX6_corners : MethodName := ⟨RX6, "corners", "()I"⟩
abbrev cX6_segments : ByteArray := prog_8_method_3_code
def yX6_segments : MethodName := ⟨RX6, "segments", "()I"⟩
abbrev cX6_isInner : ByteArray := prog_8_method_4_code
def yX6_isInner : MethodName := ⟨RX6, "isInner", "(I)Z"⟩
abbrev cX6_isLevel : ByteArray := prog_8_method_5_code
def yX6_isLevel : MethodName := ⟨RX6, "isLevel", "(I)Z"⟩
abbrev cX6_lineOf : ByteArray := prog_8_method_6_code
def yX6_lineOf : MethodName := ⟨RX6, "lineOf", "(I)I"⟩
abbrev cX6_runsUp : ByteArray := prog_8_method_7_code
def yX6_runsUp : MethodName := ⟨RX6, "runsUp", "(I)Z"⟩
abbrev cX6_startOf : ByteArray := prog_8_method_8_code
def yX6_startOf : MethodName := ⟨RX6, "startOf", "(I)I"⟩
abbrev cX6_endOf : ByteArray := prog_8_method_9_code
def yX6_endOf : MethodName := ⟨RX6, "endOf", "(I)I"⟩
abbrev cX6_length : ByteArray := prog_8_method_10_code
def yX6_length : MethodName := ⟨RX6, "length", "()I"⟩
abbrev cX6_pullOf : ByteArray := prog_8_method_11_code
def yX6_pullOf : MethodName := ⟨RX6, "pullOf", "(I)I"⟩
abbrev cX6_hasCornerAt : ByteArray := prog_8_method_12_code
def yX6_hasCornerAt : MethodName := ⟨RX6, "hasCornerAt", "(II)Z"⟩
abbrev cX6_passes : ByteArray := prog_8_method_13_code
def yX6_passes : MethodName := ⟨RX6, "passes", "(II)Z"⟩
abbrev cX6_crossingsWith : ByteArray := prog_8_method_14_code
def yX6_crossingsWith : MethodName := ⟨RX6, "crossingsWith", "(LConnectorRouter$Route;)I"⟩
abbrev cX6_isInside : ByteArray := prog_8_method_15_code
def yX6_isInside : MethodName := ⟨RX6, "isInside", "(II)Z"⟩
abbrev cX6_sharedLengthWith : ByteArray := prog_8_method_16_code
def yX6_sharedLengthWith : MethodName := ⟨RX6, "sharedLengthWith", "(LConnectorRouter$Route;)I"⟩
abbrev cX6_hashOnto : ByteArray := prog_8_method_17_code
def yX6_hashOnto : MethodName := ⟨RX6, "hashOnto", "(J)J"⟩
def RX7 : String := "ConnectorRouter$WaitingStates"
def TX7 : u_T := fun k => match k with
  | 0 => ("ConnectorRouter$WaitingStates", "reached", "I", false)
  | 1 => ("ConnectorRouter$WaitingStates", "heads", "[I", true)
  | 2 => ("ConnectorRouter$WaitingStates", "next", "[I", true)
  | _ => ("ConnectorRouter$WaitingStates", "previous", "[I", true)
def tyX7 : Nat → FieldType := fun k => match k with
  | 0 => .int
  | 1 => .array .int
  | 2 => .array .int
  | _ => .array .int
abbrev wsX70 : List Cond := u_ws RX7 TX7 4
theorem nmX7 : ∀ a, a < 4 → ∀ b, b < 4 → a ≠ b → (TX7 a).2.1 ≠ (TX7 b).2.1 := by decide +kernel
theorem tyX7_ok : ∀ k, k < 4 → parseFieldDescriptor (TX7 k).2.2.1 = some (tyX7 k) := by decide +kernel
abbrev cX7_init : ByteArray := prog_9_method_1_code
def yX7_init : MethodName := ⟨RX7, "<init>", "(I)V"⟩
abbrev cX7_clear : ByteArray := prog_9_method_2_code
def yX7_clear : MethodName := ⟨RX7, "clear", "()V"⟩
abbrev cX7_put : ByteArray := prog_9_method_3_code
def yX7_put : MethodName := ⟨RX7, "put", "(II)V"⟩
abbrev cX7_remove : ByteArray := prog_9_method_4_code
def yX7_remove : MethodName := ⟨RX7, "remove", "(II)V"⟩
abbrev cX7_takeCheapest : ByteArray := prog_9_method_5_code
def yX7_takeCheapest : MethodName := ⟨RX7, "takeCheapest", "()I"⟩
def RX8 : String := "ConnectorRouter$WayFinder"
def TX8 : u_T := fun k => match k with
  | 0 => ("ConnectorRouter$WayFinder", "grid", "LConnectorRouter$Grid;", true)
  | 1 => ("ConnectorRouter$WayFinder", "waiting", "LConnectorRouter$WaitingStates;", true)
  | 2 => ("ConnectorRouter$WayFinder", "rests", "[I", true)
  | 3 => ("ConnectorRouter$WayFinder", "penalty", "I", false)
  | 4 => ("ConnectorRouter$WayFinder", "start", "I", false)
  | 5 => ("ConnectorRouter$WayFinder", "startSide", "I", false)
  | 6 => ("ConnectorRouter$WayFinder", "goal", "I", false)
  | 7 => ("ConnectorRouter$WayFinder", "goalSide", "I", false)
  | 8 => ("ConnectorRouter$WayFinder", "cornerXs", "[I", true)
  | 9 => ("ConnectorRouter$WayFinder", "cornerYs", "[I", true)
  | _ => ("ConnectorRouter$WayFinder", "corners", "I", false)
def tyX8 : Nat → FieldType := fun k => match k with
  | 0 => .object "ConnectorRouter$Grid"
  | 1 => .object "ConnectorRouter$WaitingStates"
  | 2 => .array .int
  | 3 => .int
  | 4 => .int
  | 5 => .int
  | 6 => .int
  | 7 => .int
  | 8 => .array .int
  | 9 => .array .int
  | _ => .int
abbrev wsX80 : List Cond := u_ws RX8 TX8 11
theorem nmX8 : ∀ a, a < 11 → ∀ b, b < 11 → a ≠ b → (TX8 a).2.1 ≠ (TX8 b).2.1 := by decide +kernel
theorem tyX8_ok : ∀ k, k < 11 → parseFieldDescriptor (TX8 k).2.2.1 = some (tyX8 k) := by decide +kernel
abbrev cX8_init : ByteArray := prog_10_method_1_code
def yX8_init : MethodName := ⟨RX8, "<init>", "()V"⟩
abbrev cX8_findCost : ByteArray := prog_10_method_2_code
def yX8_findCost : MethodName := ⟨RX8, "findCost", "(LConnectorRouter$Canvas;I)I"⟩
abbrev cX8_prepare : ByteArray := prog_10_method_3_code
def yX8_prepare : MethodName := ⟨RX8, "prepare", "(LConnectorRouter$Canvas;I)V"⟩
abbrev cX8_stateOf : ByteArray := prog_10_method_4_code
def yX8_stateOf : MethodName := ⟨RX8, "stateOf", "(II)I"⟩
abbrev cX8_restAtGoal : ByteArray := prog_10_method_5_code
def yX8_restAtGoal : MethodName := ⟨RX8, "restAtGoal", "(I)I"⟩
abbrev cX8_offer : ByteArray := prog_10_method_6_code
def yX8_offer : MethodName := ⟨RX8, "offer", "(II)V"⟩
abbrev cX8_goBackFrom : ByteArray := prog_10_method_7_code
def yX8_goBackFrom : MethodName := ⟨RX8, "goBackFrom", "(I)V"⟩
abbrev cX8_walk : ByteArray := prog_10_method_8_code
def yX8_walk : MethodName := ⟨RX8, "walk", "()V"⟩
abbrev cX8_nextDirection : ByteArray := prog_10_method_9_code
def yX8_nextDirection : MethodName := ⟨RX8, "nextDirection", "(II)I"⟩
abbrev cX8_addCorner : ByteArray := prog_10_method_10_code
def yX8_addCorner : MethodName := ⟨RX8, "addCorner", "(II)V"⟩
abbrev cX8_walkedAlong : ByteArray := prog_10_method_11_code
def yX8_walkedAlong : MethodName := ⟨RX8, "walkedAlong", "(LConnectorRouter$Route;)Z"⟩
abbrev cX8_makeRoute : ByteArray := prog_10_method_12_code
def yX8_makeRoute : MethodName := ⟨RX8, "makeRoute", "(I)LConnectorRouter$Route;"⟩
def RX9 : String := "ConnectorRouter"
def TX9 : u_T := fun k => match k with
  | 0 => ("ConnectorRouter", "canvas", "LConnectorRouter$Canvas;", true)
  | 1 => ("ConnectorRouter", "history", "LConnectorRouter$History;", true)
  | 2 => ("ConnectorRouter", "finder", "LConnectorRouter$WayFinder;", true)
  | 3 => ("ConnectorRouter", "bundle", "LConnectorRouter$Bundle;", true)
  | 4 => ("ConnectorRouter", "text", "LConnectorRouter$CommandText;", true)
  | 5 => ("ConnectorRouter", "writing", "Ljava/lang/StringBuilder;", true)
  | _ => ("ConnectorRouter", "running", "Z", false)
def tyX9 : Nat → FieldType := fun k => match k with
  | 0 => .object "ConnectorRouter$Canvas"
  | 1 => .object "ConnectorRouter$History"
  | 2 => .object "ConnectorRouter$WayFinder"
  | 3 => .object "ConnectorRouter$Bundle"
  | 4 => .object "ConnectorRouter$CommandText"
  | 5 => .object "java/lang/StringBuilder"
  | _ => .boolean
abbrev wsX90 : List Cond := u_ws RX9 TX9 7
theorem nmX9 : ∀ a, a < 7 → ∀ b, b < 7 → a ≠ b → (TX9 a).2.1 ≠ (TX9 b).2.1 := by decide +kernel
theorem tyX9_ok : ∀ k, k < 7 → parseFieldDescriptor (TX9 k).2.2.1 = some (tyX9 k) := by decide +kernel
abbrev cX9_init : ByteArray := prog_1_method_1_code
def yX9_init : MethodName := ⟨RX9, "<init>", "()V"⟩
abbrev cX9_addBox : ByteArray := prog_1_method_2_code
def yX9_addBox : MethodName := ⟨RX9, "addBox", "(IIII)I"⟩
abbrev cX9_moveBox : ByteArray := prog_1_method_3_code
def yX9_moveBox : MethodName := ⟨RX9, "moveBox", "(III)I"⟩
abbrev cX9_box : ByteArray := prog_1_method_4_code
def yX9_box : MethodName := ⟨RX9, "box", "(II)I"⟩
abbrev cX9_blocker : ByteArray := prog_1_method_5_code
def yX9_blocker : MethodName := ⟨RX9, "blocker", "(II)I"⟩
abbrev cX9_link : ByteArray := prog_1_method_6_code
def yX9_link : MethodName := ⟨RX9, "link", "(IIIIII)I"⟩
abbrev cX9_drop : ByteArray := prog_1_method_7_code
def yX9_drop : MethodName := ⟨RX9, "drop", "(I)I"⟩
abbrev cX9_setPenalty : ByteArray := prog_1_method_8_code
def yX9_setPenalty : MethodName := ⟨RX9, "setPenalty", "(I)I"⟩
abbrev cX9_count : ByteArray := prog_1_method_9_code
def yX9_count : MethodName := ⟨RX9, "count", "(I)I"⟩
abbrev cX9_connector : ByteArray := prog_1_method_10_code
def yX9_connector : MethodName := ⟨RX9, "connector", "(II)I"⟩
abbrev cX9_route : ByteArray := prog_1_method_11_code
def yX9_route : MethodName := ⟨RX9, "route", "(I)I"⟩
abbrev cX9_routeAll : ByteArray := prog_1_method_12_code
def yX9_routeAll : MethodName := ⟨RX9, "routeAll", "()I"⟩
abbrev cX9_reroute : ByteArray := prog_1_method_13_code
def yX9_reroute : MethodName := ⟨RX9, "reroute", "()I"⟩
abbrev cX9_refresh : ByteArray := prog_1_method_14_code
def yX9_refresh : MethodName := ⟨RX9, "refresh", "()I"⟩
abbrev cX9_best : ByteArray := prog_1_method_15_code
def yX9_best : MethodName := ⟨RX9, "best", "(I)I"⟩
abbrev cX9_measure : ByteArray := prog_1_method_16_code
def yX9_measure : MethodName := ⟨RX9, "measure", "(II)I"⟩
abbrev cX9_corner : ByteArray := prog_1_method_17_code
def yX9_corner : MethodName := ⟨RX9, "corner", "(III)I"⟩
abbrev cX9_isOn : ByteArray := prog_1_method_18_code
def yX9_isOn : MethodName := ⟨RX9, "isOn", "(III)I"⟩
abbrev cX9_crossings : ByteArray := prog_1_method_19_code
def yX9_crossings : MethodName := ⟨RX9, "crossings", "(II)I"⟩
abbrev cX9_shared : ByteArray := prog_1_method_20_code
def yX9_shared : MethodName := ⟨RX9, "shared", "(II)I"⟩
abbrev cX9_lane : ByteArray := prog_1_method_21_code
def yX9_lane : MethodName := ⟨RX9, "lane", "(III)I"⟩
abbrev cX9_write : ByteArray := prog_1_method_22_code
def yX9_write : MethodName := ⟨RX9, "write", "(I)I"⟩
abbrev cX9_written : ByteArray := prog_1_method_23_code
def yX9_written : MethodName := ⟨RX9, "written", "(I)I"⟩
abbrev cX9_type : ByteArray := prog_1_method_24_code
def yX9_type : MethodName := ⟨RX9, "type", "(I)I"⟩
abbrev cX9_clearText : ByteArray := prog_1_method_25_code
def yX9_clearText : MethodName := ⟨RX9, "clearText", "()I"⟩
abbrev cX9_textFault : ByteArray := prog_1_method_26_code
def yX9_textFault : MethodName := ⟨RX9, "textFault", "()I"⟩
abbrev cX9_run : ByteArray := prog_1_method_27_code
def yX9_run : MethodName := ⟨RX9, "run", "()I"⟩
abbrev cX9_undo : ByteArray := prog_1_method_28_code
def yX9_undo : MethodName := ⟨RX9, "undo", "()I"⟩
abbrev cX9_digest : ByteArray := prog_1_method_29_code
def yX9_digest : MethodName := ⟨RX9, "digest", "()J"⟩
abbrev cX9_isWithin : ByteArray := prog_1_method_30_code
def yX9_isWithin : MethodName := ⟨RX9, "isWithin", "(III)Z"⟩
abbrev cX9_isError : ByteArray := prog_1_method_31_code
def yX9_isError : MethodName := ⟨RX9, "isError", "(I)Z"⟩
abbrev cX9_remember : ByteArray := prog_1_method_32_code
def yX9_remember : MethodName := ⟨RX9, "remember", "()V"⟩
abbrev cX9_takeWay : ByteArray := prog_1_method_33_code
def yX9_takeWay : MethodName := ⟨RX9, "takeWay", "(II)Z"⟩
abbrev cX9_carryOut : ByteArray := prog_1_method_34_code
def yX9_carryOut : MethodName := ⟨RX9, "carryOut", "(I[I)I"⟩
def RX10 : String := "ConnectorRouterModel"
def TX10 : u_T := fun k => match k with
  | 0 => ("ConnectorRouterModel", "row", "[I", true)
  | 1 => ("ConnectorRouterModel", "kept", "I", false)
  | 2 => ("ConnectorRouterModel", "silent", "Z", false)
  | 3 => ("ConnectorRouterModel", "xs", "[I", true)
  | 4 => ("ConnectorRouterModel", "ys", "[I", true)
  | 5 => ("ConnectorRouterModel", "xMany", "I", false)
  | 6 => ("ConnectorRouterModel", "yMany", "I", false)
  | 7 => ("ConnectorRouterModel", "isNode", "[Z", true)
  | 8 => ("ConnectorRouterModel", "right", "[Z", true)
  | 9 => ("ConnectorRouterModel", "down", "[Z", true)
  | 10 => ("ConnectorRouterModel", "toEnd", "[I", true)
  | 11 => ("ConnectorRouterModel", "wayX", "[I", true)
  | 12 => ("ConnectorRouterModel", "wayY", "[I", true)
  | 13 => ("ConnectorRouterModel", "wayMany", "I", false)
  | 14 => ("ConnectorRouterModel", "inner", "[I", true)
  | 15 => ("ConnectorRouterModel", "laneOf", "[I", true)
  | 16 => ("ConnectorRouterModel", "isIn", "[Z", true)
  | 17 => ("ConnectorRouterModel", "inners", "I", false)
  | 18 => ("ConnectorRouterModel", "out", "[I", true)
  | 19 => ("ConnectorRouterModel", "outMany", "I", false)
  | 20 => ("ConnectorRouterModel", "text", "[I", true)
  | 21 => ("ConnectorRouterModel", "length", "I", false)
  | 22 => ("ConnectorRouterModel", "at", "I", false)
  | 23 => ("ConnectorRouterModel", "fine", "Z", false)
  | 24 => ("ConnectorRouterModel", "number", "[I", true)
  | _ => ("ConnectorRouterModel", "h", "J", false)
def tyX10 : Nat → FieldType := fun k => match k with
  | 0 => .array .int
  | 1 => .int
  | 2 => .boolean
  | 3 => .array .int
  | 4 => .array .int
  | 5 => .int
  | 6 => .int
  | 7 => .array .boolean
  | 8 => .array .boolean
  | 9 => .array .boolean
  | 10 => .array .int
  | 11 => .array .int
  | 12 => .array .int
  | 13 => .int
  | 14 => .array .int
  | 15 => .array .int
  | 16 => .array .boolean
  | 17 => .int
  | 18 => .array .int
  | 19 => .int
  | 20 => .array .int
  | 21 => .int
  | 22 => .int
  | 23 => .boolean
  | 24 => .array .int
  | _ => .long
abbrev wsX100 : List Cond := u_ws RX10 TX10 26
theorem nmX10 : ∀ a, a < 26 → ∀ b, b < 26 → a ≠ b → (TX10 a).2.1 ≠ (TX10 b).2.1 := by decide +kernel
theorem tyX10_ok : ∀ k, k < 26 → parseFieldDescriptor (TX10 k).2.2.1 = some (tyX10 k) := by decide +kernel
abbrev cX10_init : ByteArray := prog_12_method_1_code
def yX10_init : MethodName := ⟨RX10, "<init>", "()V"⟩
abbrev cX10_in : ByteArray := prog_12_method_2_code
def yX10_in : MethodName := ⟨RX10, "in", "(III)Z"⟩
abbrev cX10_copies : ByteArray := prog_12_method_3_code
def yX10_copies : MethodName := ⟨RX10, "copies", "(II)V"⟩
abbrev cX10_records : ByteArray := prog_12_method_4_code
def yX10_records : MethodName := ⟨RX10, "records", "()V"⟩
abbrev cX10_side : ByteArray := prog_12_method_5_code
def yX10_side : MethodName := ⟨RX10, "side", "(II)I"⟩
abbrev cX10_isBox : ByteArray := prog_12_method_6_code
def yX10_isBox : MethodName := ⟨RX10, "isBox", "(I)Z"⟩
abbrev cX10_isRange : ByteArray := prog_12_method_7_code
def yX10_isRange : MethodName := ⟨RX10, "isRange", "(II)Z"⟩
abbrev cX10_isNear : ByteArray := prog_12_method_8_code
def yX10_isNear : MethodName := ⟨RX10, "isNear", "(IIIII)Z"⟩
abbrev cX10_lays : ByteArray := prog_12_method_9_code
def yX10_lays : MethodName := ⟨RX10, "lays", "(IIIII)V"⟩
abbrev cX10_addBox : ByteArray := prog_12_method_10_code
def yX10_addBox : MethodName := ⟨RX10, "addBox", "(IIII)I"⟩
abbrev cX10_moveBox : ByteArray := prog_12_method_11_code
def yX10_moveBox : MethodName := ⟨RX10, "moveBox", "(III)I"⟩
abbrev cX10_box : ByteArray := prog_12_method_12_code
def yX10_box : MethodName := ⟨RX10, "box", "(II)I"⟩
abbrev cX10_blockerOf : ByteArray := prog_12_method_13_code
def yX10_blockerOf : MethodName := ⟨RX10, "blockerOf", "(II)I"⟩
abbrev cX10_blocker : ByteArray := prog_12_method_14_code
def yX10_blocker : MethodName := ⟨RX10, "blocker", "(II)I"⟩
abbrev cX10_of : ByteArray := prog_12_method_15_code
def yX10_of : MethodName := ⟨RX10, "of", "(II)I"⟩
abbrev cX10_puts : ByteArray := prog_12_method_16_code
def yX10_puts : MethodName := ⟨RX10, "puts", "(III)V"⟩
abbrev cX10_isLink : ByteArray := prog_12_method_17_code
def yX10_isLink : MethodName := ⟨RX10, "isLink", "(I)Z"⟩
abbrev cX10_hasRoute : ByteArray := prog_12_method_18_code
def yX10_hasRoute : MethodName := ⟨RX10, "hasRoute", "(I)Z"⟩
abbrev cX10_cornerX : ByteArray := prog_12_method_19_code
def yX10_cornerX : MethodName := ⟨RX10, "cornerX", "(II)I"⟩
abbrev cX10_cornerY : ByteArray := prog_12_method_20_code
def yX10_cornerY : MethodName := ⟨RX10, "cornerY", "(II)I"⟩
abbrev cX10_isPort : ByteArray := prog_12_method_21_code
def yX10_isPort : MethodName := ⟨RX10, "isPort", "(III)Z"⟩
abbrev cX10_link : ByteArray := prog_12_method_22_code
def yX10_link : MethodName := ⟨RX10, "link", "(IIIIII)I"⟩
abbrev cX10_drop : ByteArray := prog_12_method_23_code
def yX10_drop : MethodName := ⟨RX10, "drop", "(I)I"⟩
abbrev cX10_setPenalty : ByteArray := prog_12_method_24_code
def yX10_setPenalty : MethodName := ⟨RX10, "setPenalty", "(I)I"⟩
abbrev cX10_portOf : ByteArray := prog_12_method_25_code
def yX10_portOf : MethodName := ⟨RX10, "portOf", "(IIZI)I"⟩
abbrev cX10_isTouched : ByteArray := prog_12_method_26_code
def yX10_isTouched : MethodName := ⟨RX10, "isTouched", "(I)Z"⟩
abbrev cX10_sign : ByteArray := prog_12_method_27_code
def yX10_sign : MethodName := ⟨RX10, "sign", "(I)I"⟩
abbrev cX10_lengthOf : ByteArray := prog_12_method_28_code
def yX10_lengthOf : MethodName := ⟨RX10, "lengthOf", "(I)I"⟩
abbrev cX10_count : ByteArray := prog_12_method_29_code
def yX10_count : MethodName := ⟨RX10, "count", "(I)I"⟩
abbrev cX10_connector : ByteArray := prog_12_method_30_code
def yX10_connector : MethodName := ⟨RX10, "connector", "(II)I"⟩
abbrev cX10_addsX : ByteArray := prog_12_method_31_code
def yX10_addsX : MethodName := ⟨RX10, "addsX", "(I)V"⟩
abbrev cX10_addsY : ByteArray := prog_12_method_32_code
def yX10_addsY : MethodName := ⟨RX10, "addsY", "(I)V"⟩
abbrev cX10_makesGrid : ByteArray := prog_12_method_33_code
def yX10_makesGrid : MethodName := ⟨RX10, "makesGrid", "(I)V"⟩
abbrev cX10_indexX : ByteArray := prog_12_method_34_code
def yX10_indexX : MethodName := ⟨RX10, "indexX", "(I)I"⟩
abbrev cX10_indexY : ByteArray := prog_12_method_35_code
def yX10_indexY : MethodName := ⟨RX10, "indexY", "(I)I"⟩
abbrev cX10_next : ByteArray := prog_12_method_36_code
def yX10_next : MethodName := ⟨RX10, "next", "(II)I"⟩
abbrev cX10_stepLength : ByteArray := prog_12_method_37_code
def yX10_stepLength : MethodName := ⟨RX10, "stepLength", "(II)I"⟩
abbrev cX10_outer : ByteArray := prog_12_method_38_code
def yX10_outer : MethodName := ⟨RX10, "outer", "(II)I"⟩
abbrev cX10_ending : ByteArray := prog_12_method_39_code
def yX10_ending : MethodName := ⟨RX10, "ending", "(II)I"⟩
abbrev cX10_goingOn : ByteArray := prog_12_method_40_code
def yX10_goingOn : MethodName := ⟨RX10, "goingOn", "(III)I"⟩
abbrev cX10_findsCosts : ByteArray := prog_12_method_41_code
def yX10_findsCosts : MethodName := ⟨RX10, "findsCosts", "(I)V"⟩
abbrev cX10_bestOf : ByteArray := prog_12_method_42_code
def yX10_bestOf : MethodName := ⟨RX10, "bestOf", "(I)I"⟩
abbrev cX10_point : ByteArray := prog_12_method_43_code
def yX10_point : MethodName := ⟨RX10, "point", "(II)V"⟩
abbrev cX10_finds : ByteArray := prog_12_method_44_code
def yX10_finds : MethodName := ⟨RX10, "finds", "(I)I"⟩
abbrev cX10_takes : ByteArray := prog_12_method_45_code
def yX10_takes : MethodName := ⟨RX10, "takes", "(II)Z"⟩
abbrev cX10_route : ByteArray := prog_12_method_46_code
def yX10_route : MethodName := ⟨RX10, "route", "(I)I"⟩
abbrev cX10_routeAll : ByteArray := prog_12_method_47_code
def yX10_routeAll : MethodName := ⟨RX10, "routeAll", "()I"⟩
abbrev cX10_routesThose : ByteArray := prog_12_method_48_code
def yX10_routesThose : MethodName := ⟨RX10, "routesThose", "(Z)I"⟩
abbrev cX10_reroute : ByteArray := prog_12_method_49_code
def yX10_reroute : MethodName := ⟨RX10, "reroute", "()I"⟩
abbrev cX10_refresh : ByteArray := prog_12_method_50_code
def yX10_refresh : MethodName := ⟨RX10, "refresh", "()I"⟩
abbrev cX10_best : ByteArray := prog_12_method_51_code
def yX10_best : MethodName := ⟨RX10, "best", "(I)I"⟩
abbrev cX10_measure : ByteArray := prog_12_method_52_code
def yX10_measure : MethodName := ⟨RX10, "measure", "(II)I"⟩
abbrev cX10_isCorner : ByteArray := prog_12_method_53_code
def yX10_isCorner : MethodName := ⟨RX10, "isCorner", "(II)Z"⟩
abbrev cX10_corner : ByteArray := prog_12_method_54_code
def yX10_corner : MethodName := ⟨RX10, "corner", "(III)I"⟩
abbrev cX10_lowX : ByteArray := prog_12_method_55_code
def yX10_lowX : MethodName := ⟨RX10, "lowX", "(II)I"⟩
abbrev cX10_highX : ByteArray := prog_12_method_56_code
def yX10_highX : MethodName := ⟨RX10, "highX", "(II)I"⟩
abbrev cX10_lowY : ByteArray := prog_12_method_57_code
def yX10_lowY : MethodName := ⟨RX10, "lowY", "(II)I"⟩
abbrev cX10_highY : ByteArray := prog_12_method_58_code
def yX10_highY : MethodName := ⟨RX10, "highY", "(II)I"⟩
abbrev cX10_isFlat : ByteArray := prog_12_method_59_code
def yX10_isFlat : MethodName := ⟨RX10, "isFlat", "(II)Z"⟩
abbrev cX10_isOn : ByteArray := prog_12_method_60_code
def yX10_isOn : MethodName := ⟨RX10, "isOn", "(III)I"⟩
abbrev cX10_segments : ByteArray := prog_12_method_61_code
def yX10_segments : MethodName := ⟨RX10, "segments", "(I)I"⟩
abbrev cX10_crossingsOf : ByteArray := prog_12_method_62_code
def yX10_crossingsOf : MethodName := ⟨RX10, "crossingsOf", "(II)I"⟩
abbrev cX10_crossings : ByteArray := prog_12_method_63_code
def yX10_crossings : MethodName := ⟨RX10, "crossings", "(II)I"⟩
abbrev cX10_common : ByteArray := prog_12_method_64_code
def yX10_common : MethodName := ⟨RX10, "common", "(IIII)I"⟩
abbrev cX10_most : ByteArray := prog_12_method_65_code
def yX10_most : MethodName := ⟨RX10, "most", "(II)I"⟩
abbrev cX10_shared : ByteArray := prog_12_method_66_code
def yX10_shared : MethodName := ⟨RX10, "shared", "(II)I"⟩
abbrev cX10_pullOf : ByteArray := prog_12_method_67_code
def yX10_pullOf : MethodName := ⟨RX10, "pullOf", "(I)I"⟩
abbrev cX10_collide : ByteArray := prog_12_method_68_code
def yX10_collide : MethodName := ⟨RX10, "collide", "(II)Z"⟩
abbrev cX10_bundles : ByteArray := prog_12_method_69_code
def yX10_bundles : MethodName := ⟨RX10, "bundles", "(I)I"⟩
abbrev cX10_lays_ : ByteArray := prog_12_method_70_code
def yX10_lays_ : MethodName := ⟨RX10, "lays", "()I"⟩
abbrev cX10_lane : ByteArray := prog_12_method_71_code
def yX10_lane : MethodName := ⟨RX10, "lane", "(III)I"⟩
abbrev cX10_writes : ByteArray := prog_12_method_72_code
def yX10_writes : MethodName := ⟨RX10, "writes", "(I)V"⟩
abbrev cX10_number : ByteArray := prog_12_method_73_code
def yX10_number : MethodName := ⟨RX10, "number", "(I)V"⟩
abbrev cX10_write : ByteArray := prog_12_method_74_code
def yX10_write : MethodName := ⟨RX10, "write", "(I)I"⟩
abbrev cX10_written : ByteArray := prog_12_method_75_code
def yX10_written : MethodName := ⟨RX10, "written", "(I)I"⟩
abbrev cX10_type : ByteArray := prog_12_method_76_code
def yX10_type : MethodName := ⟨RX10, "type", "(I)I"⟩
abbrev cX10_clearText : ByteArray := prog_12_method_77_code
def yX10_clearText : MethodName := ⟨RX10, "clearText", "()I"⟩
abbrev cX10_here : ByteArray := prog_12_method_78_code
def yX10_here : MethodName := ⟨RX10, "here", "()I"⟩
abbrev cX10_readsNumber : ByteArray := prog_12_method_79_code
def yX10_readsNumber : MethodName := ⟨RX10, "readsNumber", "()I"⟩
abbrev cX10_word : ByteArray := prog_12_method_80_code
def yX10_word : MethodName := ⟨RX10, "word", "()I"⟩
abbrev cX10_is : ByteArray := prog_12_method_81_code
def yX10_is : MethodName := ⟨RX10, "is", "(IIIIIIII)Z"⟩
abbrev cX10_command : ByteArray := prog_12_method_82_code
def yX10_command : MethodName := ⟨RX10, "command", "(Z)I"⟩
abbrev cX10_commands : ByteArray := prog_12_method_83_code
def yX10_commands : MethodName := ⟨RX10, "commands", "(Z)I"⟩
abbrev cX10_textFault : ByteArray := prog_12_method_84_code
def yX10_textFault : MethodName := ⟨RX10, "textFault", "()I"⟩
abbrev cX10_run : ByteArray := prog_12_method_85_code
def yX10_run : MethodName := ⟨RX10, "run", "()I"⟩
abbrev cX10_undo : ByteArray := prog_12_method_86_code
def yX10_undo : MethodName := ⟨RX10, "undo", "()I"⟩
abbrev cX10_note : ByteArray := prog_12_method_87_code
def yX10_note : MethodName := ⟨RX10, "note", "(J)V"⟩
abbrev cX10_digest : ByteArray := prog_12_method_88_code
def yX10_digest : MethodName := ⟨RX10, "digest", "()J"⟩
def RJx145de : String := "java/io/Serializable"
def TJx145de : u_T := fun k => match k with
  | _ => ("", "", "", false)
def tyJx145de : Nat → FieldType := fun k => match k with
  | _ => .int
abbrev wsJx145de0 : List Cond := u_ws RJx145de TJx145de 0
theorem nmJx145de : ∀ a, a < 0 → ∀ b, b < 0 → a ≠ b → (TJx145de a).2.1 ≠ (TJx145de b).2.1 := by decide +kernel
theorem tyJx145de_ok : ∀ k, k < 0 → parseFieldDescriptor (TJx145de k).2.2.1 = some (tyJx145de k) := by decide +kernel
def RJ5 : String := "java/lang/AbstractStringBuilder"
def TJ5 : u_T := fun k => match k with
  | _ => ("", "", "", false)
def tyJ5 : Nat → FieldType := fun k => match k with
  | _ => .int
abbrev wsJ50 : List Cond := u_ws RJ5 TJ5 0
theorem nmJ5 : ∀ a, a < 0 → ∀ b, b < 0 → a ≠ b → (TJ5 a).2.1 ≠ (TJ5 b).2.1 := by decide +kernel
theorem tyJ5_ok : ∀ k, k < 0 → parseFieldDescriptor (TJ5 k).2.2.1 = some (tyJ5 k) := by decide +kernel
abbrev cJ5_init_d00df : ByteArray := prog_13_method_2_code
def yJ5_init_d00df : MethodName := ⟨RJ5, "<init>", "(I)V"⟩
abbrev cJ5_length_8abf5 : ByteArray := prog_13_method_6_code
def yJ5_length_8abf5 : MethodName := ⟨RJ5, "length", "()I"⟩
abbrev cJ5_ensureCapacityInternal_d00df : ByteArray := prog_13_method_9_code
def yJ5_ensureCapacityInternal_d00df : MethodName := ⟨RJ5, "ensureCapacityInternal", "(I)V"⟩
abbrev cJ5_newCapacity_0f7a4 : ByteArray := prog_13_method_10_code
def yJ5_newCapacity_0f7a4 : MethodName := ⟨RJ5, "newCapacity", "(I)I"⟩
abbrev cJ5_inflate_da8c8 : ByteArray := prog_13_method_11_code
def yJ5_inflate_da8c8 : MethodName := ⟨RJ5, "inflate", "()V"⟩
abbrev cJ5_setLength_d00df : ByteArray := prog_13_method_13_code
def yJ5_setLength_d00df : MethodName := ⟨RJ5, "setLength", "(I)V"⟩
abbrev cJ5_charAt_5068e : ByteArray := prog_13_method_14_code
def yJ5_charAt_5068e : MethodName := ⟨RJ5, "charAt", "(I)C"⟩
abbrev cJ5_append_3fe6f : ByteArray := prog_13_method_31_code
def yJ5_append_3fe6f : MethodName := ⟨RJ5, "append", "(C)Ljava/lang/AbstractStringBuilder;"⟩
abbrev cJ5_append_c97b9 : ByteArray := prog_13_method_32_code
def yJ5_append_c97b9 : MethodName := ⟨RJ5, "append", "(I)Ljava/lang/AbstractStringBuilder;"⟩
abbrev cJ5_isLatin1_aae02 : ByteArray := prog_13_method_68_code
def yJ5_isLatin1_aae02 : MethodName := ⟨RJ5, "isLatin1", "()Z"⟩
def RJx2cfe8 : String := "java/lang/Appendable"
def TJx2cfe8 : u_T := fun k => match k with
  | _ => ("", "", "", false)
def tyJx2cfe8 : Nat → FieldType := fun k => match k with
  | _ => .int
abbrev wsJx2cfe80 : List Cond := u_ws RJx2cfe8 TJx2cfe8 0
theorem nmJx2cfe8 : ∀ a, a < 0 → ∀ b, b < 0 → a ≠ b → (TJx2cfe8 a).2.1 ≠ (TJx2cfe8 b).2.1 := by decide +kernel
theorem tyJx2cfe8_ok : ∀ k, k < 0 → parseFieldDescriptor (TJx2cfe8 k).2.2.1 = some (tyJx2cfe8 k) := by decide +kernel
def RJx9f9b0 : String := "java/lang/CharSequence"
def TJx9f9b0 : u_T := fun k => match k with
  | _ => ("", "", "", false)
def tyJx9f9b0 : Nat → FieldType := fun k => match k with
  | _ => .int
abbrev wsJx9f9b00 : List Cond := u_ws RJx9f9b0 TJx9f9b0 0
theorem nmJx9f9b0 : ∀ a, a < 0 → ∀ b, b < 0 → a ≠ b → (TJx9f9b0 a).2.1 ≠ (TJx9f9b0 b).2.1 := by decide +kernel
theorem tyJx9f9b0_ok : ∀ k, k < 0 → parseFieldDescriptor (TJx9f9b0 k).2.2.1 = some (tyJx9f9b0 k) := by decide +kernel
def RJx8e188 : String := "java/lang/Cloneable"
def TJx8e188 : u_T := fun k => match k with
  | _ => ("", "", "", false)
def tyJx8e188 : Nat → FieldType := fun k => match k with
  | _ => .int
abbrev wsJx8e1880 : List Cond := u_ws RJx8e188 TJx8e188 0
theorem nmJx8e188 : ∀ a, a < 0 → ∀ b, b < 0 → a ≠ b → (TJx8e188 a).2.1 ≠ (TJx8e188 b).2.1 := by decide +kernel
theorem tyJx8e188_ok : ∀ k, k < 0 → parseFieldDescriptor (TJx8e188 k).2.2.1 = some (tyJx8e188 k) := by decide +kernel
def RJxb160c : String := "java/lang/Comparable"
def TJxb160c : u_T := fun k => match k with
  | _ => ("", "", "", false)
def tyJxb160c : Nat → FieldType := fun k => match k with
  | _ => .int
abbrev wsJxb160c0 : List Cond := u_ws RJxb160c TJxb160c 0
theorem nmJxb160c : ∀ a, a < 0 → ∀ b, b < 0 → a ≠ b → (TJxb160c a).2.1 ≠ (TJxb160c b).2.1 := by decide +kernel
theorem tyJxb160c_ok : ∀ k, k < 0 → parseFieldDescriptor (TJxb160c k).2.2.1 = some (tyJxb160c k) := by decide +kernel
def RJ6 : String := "java/lang/Integer"
def TJ6 : u_T := fun k => match k with
  | _ => ("", "", "", false)
def tyJ6 : Nat → FieldType := fun k => match k with
  | _ => .int
abbrev wsJ60 : List Cond := u_ws RJ6 TJ6 0
theorem nmJ6 : ∀ a, a < 0 → ∀ b, b < 0 → a ≠ b → (TJ6 a).2.1 ≠ (TJ6 b).2.1 := by decide +kernel
theorem tyJ6_ok : ∀ k, k < 0 → parseFieldDescriptor (TJ6 k).2.2.1 = some (tyJ6 k) := by decide +kernel
abbrev cJ6_getChars_ba4f3 : ByteArray := prog_15_method_12_code
def yJ6_getChars_ba4f3 : MethodName := ⟨RJ6, "getChars", "(II[B)I"⟩
abbrev cJ6_stringSize_0f7a4 : ByteArray := prog_15_method_13_code
def yJ6_stringSize_0f7a4 : MethodName := ⟨RJ6, "stringSize", "(I)I"⟩
def RJ9 : String := "java/lang/Math"
def TJ9 : u_T := fun k => match k with
  | _ => ("", "", "", false)
def tyJ9 : Nat → FieldType := fun k => match k with
  | _ => .int
abbrev wsJ90 : List Cond := u_ws RJ9 TJ9 0
theorem nmJ9 : ∀ a, a < 0 → ∀ b, b < 0 → a ≠ b → (TJ9 a).2.1 ≠ (TJ9 b).2.1 := by decide +kernel
theorem tyJ9_ok : ∀ k, k < 0 → parseFieldDescriptor (TJ9 k).2.2.1 = some (tyJ9 k) := by decide +kernel
abbrev cJ9_abs_0f7a4 : ByteArray := prog_16_method_59_code
def yJ9_abs_0f7a4 : MethodName := ⟨RJ9, "abs", "(I)I"⟩
abbrev cJ9_max_7cf53 : ByteArray := prog_16_method_65_code
def yJ9_max_7cf53 : MethodName := ⟨RJ9, "max", "(II)I"⟩
abbrev cJ9_min_7cf53 : ByteArray := prog_16_method_69_code
def yJ9_min_7cf53 : MethodName := ⟨RJ9, "min", "(II)I"⟩
def RJxd2413 : String := "java/lang/Number"
def TJxd2413 : u_T := fun k => match k with
  | _ => ("", "", "", false)
def tyJxd2413 : Nat → FieldType := fun k => match k with
  | _ => .int
abbrev wsJxd24130 : List Cond := u_ws RJxd2413 TJxd2413 0
theorem nmJxd2413 : ∀ a, a < 0 → ∀ b, b < 0 → a ≠ b → (TJxd2413 a).2.1 ≠ (TJxd2413 b).2.1 := by decide +kernel
theorem tyJxd2413_ok : ∀ k, k < 0 → parseFieldDescriptor (TJxd2413 k).2.2.1 = some (tyJxd2413 k) := by decide +kernel
def RJ0 : String := "java/lang/String"
def TJ0 : u_T := fun k => match k with
  | _ => ("", "", "", false)
def tyJ0 : Nat → FieldType := fun k => match k with
  | _ => .int
abbrev wsJ00 : List Cond := u_ws RJ0 TJ0 0
theorem nmJ0 : ∀ a, a < 0 → ∀ b, b < 0 → a ≠ b → (TJ0 a).2.1 ≠ (TJ0 b).2.1 := by decide +kernel
theorem tyJ0_ok : ∀ k, k < 0 → parseFieldDescriptor (TJ0 k).2.2.1 = some (tyJ0 k) := by decide +kernel
abbrev cJ0_length_8abf5 : ByteArray := prog_18_method_54_code
def yJ0_length_8abf5 : MethodName := ⟨RJ0, "length", "()I"⟩
abbrev cJ0_charAt_5068e : ByteArray := prog_18_method_56_code
def yJ0_charAt_5068e : MethodName := ⟨RJ0, "charAt", "(I)C"⟩
abbrev cJ0_coder_7d493 : ByteArray := prog_18_method_152_code
def yJ0_coder_7d493 : MethodName := ⟨RJ0, "coder", "()B"⟩
abbrev cJ0_isLatin1_aae02 : ByteArray := prog_18_method_154_code
def yJ0_isLatin1_aae02 : MethodName := ⟨RJ0, "isLatin1", "()Z"⟩
abbrev cJ0_checkIndex_df160 : ByteArray := prog_18_method_155_code
def yJ0_checkIndex_df160 : MethodName := ⟨RJ0, "checkIndex", "(II)V"⟩
abbrev cJ0_checkBoundsOffCount_cabcc : ByteArray := prog_18_method_157_code
def yJ0_checkBoundsOffCount_cabcc : MethodName := ⟨RJ0, "checkBoundsOffCount", "(III)I"⟩
abbrev cJ0_checkBoundsBeginEnd_23922 : ByteArray := prog_18_method_158_code
def yJ0_checkBoundsBeginEnd_23922 : MethodName := ⟨RJ0, "checkBoundsBeginEnd", "(III)V"⟩
def RJ4 : String := "java/lang/StringBuilder"
def TJ4 : u_T := fun k => match k with
  | 0 => ("java/lang/AbstractStringBuilder", "value", "[B", false)
  | 1 => ("java/lang/AbstractStringBuilder", "coder", "B", false)
  | 2 => ("java/lang/AbstractStringBuilder", "maybeLatin1", "Z", false)
  | _ => ("java/lang/AbstractStringBuilder", "count", "I", false)
def tyJ4 : Nat → FieldType := fun k => match k with
  | 0 => .array .byte
  | 1 => .byte
  | 2 => .boolean
  | _ => .int
abbrev wsJ40 : List Cond := u_ws RJ4 TJ4 4
theorem nmJ4 : ∀ a, a < 4 → ∀ b, b < 4 → a ≠ b → (TJ4 a).2.1 ≠ (TJ4 b).2.1 := by decide +kernel
theorem tyJ4_ok : ∀ k, k < 4 → parseFieldDescriptor (TJ4 k).2.2.1 = some (tyJ4 k) := by decide +kernel
abbrev cJ4_init_da8c8 : ByteArray := prog_19_method_1_code
def yJ4_init_da8c8 : MethodName := ⟨RJ4, "<init>", "()V"⟩
abbrev cJ4_append_cf468 : ByteArray := prog_19_method_14_code
def yJ4_append_cf468 : MethodName := ⟨RJ4, "append", "(C)Ljava/lang/StringBuilder;"⟩
abbrev cJ4_append_bf812 : ByteArray := prog_19_method_15_code
def yJ4_append_bf812 : MethodName := ⟨RJ4, "append", "(I)Ljava/lang/StringBuilder;"⟩
abbrev cJ4_charAt_5068e : ByteArray := prog_19_method_88_code
def yJ4_charAt_5068e : MethodName := ⟨RJ4, "charAt", "(I)C"⟩
abbrev cJ4_setLength_d00df : ByteArray := prog_19_method_89_code
def yJ4_setLength_d00df : MethodName := ⟨RJ4, "setLength", "(I)V"⟩
abbrev cJ4_length_8abf5 : ByteArray := prog_19_method_93_code
def yJ4_length_8abf5 : MethodName := ⟨RJ4, "length", "()I"⟩
def RJ1 : String := "java/lang/StringLatin1"
def TJ1 : u_T := fun k => match k with
  | _ => ("", "", "", false)
def tyJ1 : Nat → FieldType := fun k => match k with
  | _ => .int
abbrev wsJ10 : List Cond := u_ws RJ1 TJ1 0
theorem nmJ1 : ∀ a, a < 0 → ∀ b, b < 0 → a ≠ b → (TJ1 a).2.1 ≠ (TJ1 b).2.1 := by decide +kernel
theorem tyJ1_ok : ∀ k, k < 0 → parseFieldDescriptor (TJ1 k).2.2.1 = some (tyJ1 k) := by decide +kernel
abbrev cJ1_charAt_3b067 : ByteArray := prog_20_method_2_code
def yJ1_charAt_3b067 : MethodName := ⟨RJ1, "charAt", "([BI)C"⟩
abbrev cJ1_canEncode_fc78d : ByteArray := prog_20_method_3_code
def yJ1_canEncode_fc78d : MethodName := ⟨RJ1, "canEncode", "(C)Z"⟩
abbrev cJ1_fillNull_b72d1 : ByteArray := prog_20_method_48_code
def yJ1_fillNull_b72d1 : MethodName := ⟨RJ1, "fillNull", "([BII)V"⟩
abbrev cJ1_inflate_0e8fd : ByteArray := prog_20_method_50_code
def yJ1_inflate_0e8fd : MethodName := ⟨RJ1, "inflate", "([BI[BII)V"⟩
def RJ2 : String := "java/lang/StringUTF16"
def TJ2 : u_T := fun k => match k with
  | _ => ("", "", "", false)
def tyJ2 : Nat → FieldType := fun k => match k with
  | _ => .int
abbrev wsJ20 : List Cond := u_ws RJ2 TJ2 0
theorem nmJ2 : ∀ a, a < 0 → ∀ b, b < 0 → a ≠ b → (TJ2 a).2.1 ≠ (TJ2 b).2.1 := by decide +kernel
theorem tyJ2_ok : ∀ k, k < 0 → parseFieldDescriptor (TJ2 k).2.2.1 = some (tyJ2 k) := by decide +kernel
abbrev cJ2_newBytesFor_77867 : ByteArray := prog_21_method_2_code
def yJ2_newBytesFor_77867 : MethodName := ⟨RJ2, "newBytesFor", "(I)[B"⟩
abbrev cJ2_newBytesLength_0f7a4 : ByteArray := prog_21_method_3_code
def yJ2_newBytesLength_0f7a4 : MethodName := ⟨RJ2, "newBytesLength", "(I)I"⟩
abbrev cJ2_putChar_b72d1 : ByteArray := prog_21_method_4_code
def yJ2_putChar_b72d1 : MethodName := ⟨RJ2, "putChar", "([BII)V"⟩
abbrev cJ2_getChar_3b067 : ByteArray := prog_21_method_5_code
def yJ2_getChar_3b067 : MethodName := ⟨RJ2, "getChar", "([BI)C"⟩
abbrev cJ2_length_9d52b : ByteArray := prog_21_method_6_code
def yJ2_length_9d52b : MethodName := ⟨RJ2, "length", "([B)I"⟩
abbrev cJ2_fillNull_b72d1 : ByteArray := prog_21_method_70_code
def yJ2_fillNull_b72d1 : MethodName := ⟨RJ2, "fillNull", "([BII)V"⟩
abbrev cJ2_putCharSB_b72d1 : ByteArray := prog_21_method_71_code
def yJ2_putCharSB_b72d1 : MethodName := ⟨RJ2, "putCharSB", "([BII)V"⟩
abbrev cJ2_getChars_46870 : ByteArray := prog_21_method_77_code
def yJ2_getChars_46870 : MethodName := ⟨RJ2, "getChars", "(III[B)I"⟩
abbrev cJ2_charAt_3b067 : ByteArray := prog_21_method_83_code
def yJ2_charAt_3b067 : MethodName := ⟨RJ2, "charAt", "([BI)C"⟩
abbrev cJ2_inflate_0e8fd : ByteArray := prog_21_method_86_code
def yJ2_inflate_0e8fd : MethodName := ⟨RJ2, "inflate", "([BI[BII)V"⟩
abbrev cJ2_getChars_ba4f3 : ByteArray := prog_21_method_89_code
def yJ2_getChars_ba4f3 : MethodName := ⟨RJ2, "getChars", "(II[B)I"⟩
abbrev cJ2_checkIndex_2214a : ByteArray := prog_21_method_91_code
def yJ2_checkIndex_2214a : MethodName := ⟨RJ2, "checkIndex", "(I[B)V"⟩
abbrev cJ2_checkBoundsBeginEnd_d044e : ByteArray := prog_21_method_93_code
def yJ2_checkBoundsBeginEnd_d044e : MethodName := ⟨RJ2, "checkBoundsBeginEnd", "(II[B)V"⟩
abbrev cJ2_checkBoundsOffCount_d044e : ByteArray := prog_21_method_94_code
def yJ2_checkBoundsOffCount_d044e : MethodName := ⟨RJ2, "checkBoundsOffCount", "(II[B)V"⟩
def RJ10 : String := "java/lang/System"
def TJ10 : u_T := fun k => match k with
  | _ => ("", "", "", false)
def tyJ10 : Nat → FieldType := fun k => match k with
  | _ => .int
abbrev wsJ100 : List Cond := u_ws RJ10 TJ10 0
theorem nmJ10 : ∀ a, a < 0 → ∀ b, b < 0 → a ≠ b → (TJ10 a).2.1 ≠ (TJ10 b).2.1 := by decide +kernel
theorem tyJ10_ok : ∀ k, k < 0 → parseFieldDescriptor (TJ10 k).2.2.1 = some (tyJ10 k) := by decide +kernel
def RJxfd54e : String := "java/lang/constant/Constable"
def TJxfd54e : u_T := fun k => match k with
  | _ => ("", "", "", false)
def tyJxfd54e : Nat → FieldType := fun k => match k with
  | _ => .int
abbrev wsJxfd54e0 : List Cond := u_ws RJxfd54e TJxfd54e 0
theorem nmJxfd54e : ∀ a, a < 0 → ∀ b, b < 0 → a ≠ b → (TJxfd54e a).2.1 ≠ (TJxfd54e b).2.1 := by decide +kernel
theorem tyJxfd54e_ok : ∀ k, k < 0 → parseFieldDescriptor (TJxfd54e k).2.2.1 = some (tyJxfd54e k) := by decide +kernel
def RJx3cf43 : String := "java/lang/constant/ConstantDesc"
def TJx3cf43 : u_T := fun k => match k with
  | _ => ("", "", "", false)
def tyJx3cf43 : Nat → FieldType := fun k => match k with
  | _ => .int
abbrev wsJx3cf430 : List Cond := u_ws RJx3cf43 TJx3cf43 0
theorem nmJx3cf43 : ∀ a, a < 0 → ∀ b, b < 0 → a ≠ b → (TJx3cf43 a).2.1 ≠ (TJx3cf43 b).2.1 := by decide +kernel
theorem tyJx3cf43_ok : ∀ k, k < 0 → parseFieldDescriptor (TJx3cf43 k).2.2.1 = some (tyJx3cf43 k) := by decide +kernel
def RJ7 : String := "java/util/Arrays"
def TJ7 : u_T := fun k => match k with
  | _ => ("", "", "", false)
def tyJ7 : Nat → FieldType := fun k => match k with
  | _ => .int
abbrev wsJ70 : List Cond := u_ws RJ7 TJ7 0
theorem nmJ7 : ∀ a, a < 0 → ∀ b, b < 0 → a ≠ b → (TJ7 a).2.1 ≠ (TJ7 b).2.1 := by decide +kernel
theorem tyJ7_ok : ∀ k, k < 0 → parseFieldDescriptor (TJ7 k).2.2.1 = some (tyJ7 k) := by decide +kernel
abbrev cJ7_rangeCheck_23922 : ByteArray := prog_23_method_30_code
def yJ7_rangeCheck_23922 : MethodName := ⟨RJ7, "rangeCheck", "(III)V"⟩
abbrev cJ7_fill_53178 : ByteArray := prog_23_method_103_code
def yJ7_fill_53178 : MethodName := ⟨RJ7, "fill", "([II)V"⟩
abbrev cJ7_fill_eb02e : ByteArray := prog_23_method_110_code
def yJ7_fill_eb02e : MethodName := ⟨RJ7, "fill", "([BIIB)V"⟩
abbrev cJ7_copyOf_9075b : ByteArray := prog_23_method_121_code
def yJ7_copyOf_9075b : MethodName := ⟨RJ7, "copyOf", "([BI)[B"⟩
abbrev cJ7_copyOf_59c91 : ByteArray := prog_23_method_123_code
def yJ7_copyOf_59c91 : MethodName := ⟨RJ7, "copyOf", "([II)[I"⟩
def RJ8 : String := "jdk/internal/util/ArraysSupport"
def TJ8 : u_T := fun k => match k with
  | _ => ("", "", "", false)
def tyJ8 : Nat → FieldType := fun k => match k with
  | _ => .int
abbrev wsJ80 : List Cond := u_ws RJ8 TJ8 0
theorem nmJ8 : ∀ a, a < 0 → ∀ b, b < 0 → a ≠ b → (TJ8 a).2.1 ≠ (TJ8 b).2.1 := by decide +kernel
theorem tyJ8_ok : ∀ k, k < 0 → parseFieldDescriptor (TJ8 k).2.2.1 = some (tyJ8 k) := by decide +kernel
abbrev cJ8_newLength_cabcc : ByteArray := prog_24_method_27_code
def yJ8_newLength_cabcc : MethodName := ⟨RJ8, "newLength", "(III)I"⟩
abbrev cJ8_hugeLength_7cf53 : ByteArray := prog_24_method_28_code
def yJ8_hugeLength_7cf53 : MethodName := ⟨RJ8, "hugeLength", "(II)I"⟩
def RJ3 : String := "jdk/internal/util/Preconditions"
def TJ3 : u_T := fun k => match k with
  | _ => ("", "", "", false)
def tyJ3 : Nat → FieldType := fun k => match k with
  | _ => .int
abbrev wsJ30 : List Cond := u_ws RJ3 TJ3 0
theorem nmJ3 : ∀ a, a < 0 → ∀ b, b < 0 → a ≠ b → (TJ3 a).2.1 ≠ (TJ3 b).2.1 := by decide +kernel
theorem tyJ3_ok : ∀ k, k < 0 → parseFieldDescriptor (TJ3 k).2.2.1 = some (tyJ3 k) := by decide +kernel
abbrev cJ3_checkIndex_8e157 : ByteArray := prog_25_method_11_code
def yJ3_checkIndex_8e157 : MethodName := ⟨RJ3, "checkIndex", "(IILjava/util/function/BiFunction;)I"⟩
abbrev cJ3_checkFromToIndex_8c36e : ByteArray := prog_25_method_12_code
def yJ3_checkFromToIndex_8c36e : MethodName := ⟨RJ3, "checkFromToIndex", "(IIILjava/util/function/BiFunction;)I"⟩
abbrev cJ3_checkFromIndexSize_8c36e : ByteArray := prog_25_method_13_code
def yJ3_checkFromIndexSize_8c36e : MethodName := ⟨RJ3, "checkFromIndexSize", "(IIILjava/util/function/BiFunction;)I"⟩
def RL : String := "ConnectorRouterLaw"
abbrev cL_law : ByteArray := code
def yL_law : MethodName := ⟨RL, "law", "([I)Z"⟩
abbrev vwCl : List vw_C := [(RJ4, TJ4, 4), (RX0, TX0, 7), (RX1, TX1, 6), (RX2, TX2, 7), (RX4, TX4, 6), (RX5, TX5, 3), (RX6, TX6, 3), (RX7, TX7, 4), (RX8, TX8, 11), (RX9, TX9, 7), (RX10, TX10, 26)]
