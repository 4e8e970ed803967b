section
-- ===== PART A: goes FIRST, ahead of the names: the tables' words, and 'selects' of the private methods out of them =====
/-- a private method of a class that the tables say can be made, by its rows of tables_1 -/
def lw_okq (q : MethodName × Nat) : Prop := (q.1.cls ≠ "java/lang/invoke/MethodHandle" ∧ q.1.cls ≠ "java/lang/invoke/VarHandle") ∧ Cond.instantiable q.1.cls q.2 ∈ tables_1 ∧ Cond.privateMethod q.1 ∈ tables_1 ∧ Cond.instanceMethod q.1 ∈ tables_1
theorem lw_p0 : lw_okq (⟨"FlushPlanner$Battery", "wornTimes", "()I"⟩, 6) := ⟨⟨by decide +kernel, by decide +kernel⟩, List.mem_of_getElem? (i := 72) (by decide +kernel), List.mem_of_getElem? (i := 345) (by decide +kernel), List.mem_of_getElem? (i := 346) (by decide +kernel)⟩
theorem lw_p1 : lw_okq (⟨"java/lang/Throwable", "fillInStackTrace", "(I)Ljava/lang/Throwable;"⟩, 6) := ⟨⟨by decide +kernel, by decide +kernel⟩, List.mem_of_getElem? (i := 403) (by decide +kernel), List.mem_of_getElem? (i := 401) (by decide +kernel), List.mem_of_getElem? (i := 402) (by decide +kernel)⟩
theorem lw_p2 : lw_okq (⟨"FlushPlanner$SetupText", "readToken", "()V"⟩, 7) := ⟨⟨by decide +kernel, by decide +kernel⟩, List.mem_of_getElem? (i := 34) (by decide +kernel), List.mem_of_getElem? (i := 476) (by decide +kernel), List.mem_of_getElem? (i := 477) (by decide +kernel)⟩
theorem lw_p3 : lw_okq (⟨"FlushPlanner$SetupText", "readBattery", "(LFlushPlanner$Battery;)V"⟩, 7) := ⟨⟨by decide +kernel, by decide +kernel⟩, List.mem_of_getElem? (i := 34) (by decide +kernel), List.mem_of_getElem? (i := 489) (by decide +kernel), List.mem_of_getElem? (i := 490) (by decide +kernel)⟩
theorem lw_p4 : lw_okq (⟨"FlushPlanner$SetupText", "takeWord", "(Ljava/lang/String;)V"⟩, 7) := ⟨⟨by decide +kernel, by decide +kernel⟩, List.mem_of_getElem? (i := 34) (by decide +kernel), List.mem_of_getElem? (i := 494) (by decide +kernel), List.mem_of_getElem? (i := 495) (by decide +kernel)⟩
theorem lw_p5 : lw_okq (⟨"FlushPlanner$SetupText", "isWord", "(Ljava/lang/String;)Z"⟩, 7) := ⟨⟨by decide +kernel, by decide +kernel⟩, List.mem_of_getElem? (i := 34) (by decide +kernel), List.mem_of_getElem? (i := 498) (by decide +kernel), List.mem_of_getElem? (i := 499) (by decide +kernel)⟩
theorem lw_p6 : lw_okq (⟨"FlushPlanner$SetupText", "refuse", "(I)V"⟩, 7) := ⟨⟨by decide +kernel, by decide +kernel⟩, List.mem_of_getElem? (i := 34) (by decide +kernel), List.mem_of_getElem? (i := 550) (by decide +kernel), List.mem_of_getElem? (i := 551) (by decide +kernel)⟩
theorem lw_p7 : lw_okq (⟨"FlushPlanner$SetupText", "takeNumber", "(II)I"⟩, 7) := ⟨⟨by decide +kernel, by decide +kernel⟩, List.mem_of_getElem? (i := 34) (by decide +kernel), List.mem_of_getElem? (i := 554) (by decide +kernel), List.mem_of_getElem? (i := 555) (by decide +kernel)⟩
theorem lw_p8 : lw_okq (⟨"FlushPlanner$SetupText", "takeSemicolon", "()V"⟩, 7) := ⟨⟨by decide +kernel, by decide +kernel⟩, List.mem_of_getElem? (i := 34) (by decide +kernel), List.mem_of_getElem? (i := 558) (by decide +kernel), List.mem_of_getElem? (i := 559) (by decide +kernel)⟩
theorem lw_p9 : lw_okq (⟨"FlushPlanner$SetupText", "readSettings", "(LFlushPlanner$Rules;)V"⟩, 7) := ⟨⟨by decide +kernel, by decide +kernel⟩, List.mem_of_getElem? (i := 34) (by decide +kernel), List.mem_of_getElem? (i := 562) (by decide +kernel), List.mem_of_getElem? (i := 563) (by decide +kernel)⟩
theorem lw_p10 : lw_okq (⟨"FlushPlanner$SetupText", "settingAtToken", "()I"⟩, 7) := ⟨⟨by decide +kernel, by decide +kernel⟩, List.mem_of_getElem? (i := 34) (by decide +kernel), List.mem_of_getElem? (i := 566) (by decide +kernel), List.mem_of_getElem? (i := 567) (by decide +kernel)⟩
theorem lw_p11 : lw_okq (⟨"FlushPlanner$SetupText", "readSetting", "(LFlushPlanner$Rules;I)V"⟩, 7) := ⟨⟨by decide +kernel, by decide +kernel⟩, List.mem_of_getElem? (i := 34) (by decide +kernel), List.mem_of_getElem? (i := 573) (by decide +kernel), List.mem_of_getElem? (i := 574) (by decide +kernel)⟩
theorem lw_p12 : lw_okq (⟨"FlushPlanner$SetupText", "readMode", "(LFlushPlanner$Rules;)V"⟩, 7) := ⟨⟨by decide +kernel, by decide +kernel⟩, List.mem_of_getElem? (i := 34) (by decide +kernel), List.mem_of_getElem? (i := 577) (by decide +kernel), List.mem_of_getElem? (i := 578) (by decide +kernel)⟩
theorem lw_p13 : lw_okq (⟨"FlushPlanner$SetupText", "readDevices", "(LFlushPlanner$Devices;)V"⟩, 7) := ⟨⟨by decide +kernel, by decide +kernel⟩, List.mem_of_getElem? (i := 34) (by decide +kernel), List.mem_of_getElem? (i := 584) (by decide +kernel), List.mem_of_getElem? (i := 585) (by decide +kernel)⟩
theorem lw_p14 : lw_okq (⟨"FlushPlanner$Cache", "copyBlock", "(LFlushPlanner$Cache;II)V"⟩, 5) := ⟨⟨by decide +kernel, by decide +kernel⟩, List.mem_of_getElem? (i := 173) (by decide +kernel), List.mem_of_getElem? (i := 622) (by decide +kernel), List.mem_of_getElem? (i := 623) (by decide +kernel)⟩
theorem lw_p15 : lw_okq (⟨"FlushPlanner", "requireDevice", "(I)V"⟩, 10) := ⟨⟨by decide +kernel, by decide +kernel⟩, List.mem_of_getElem? (i := 26) (by decide +kernel), List.mem_of_getElem? (i := 644) (by decide +kernel), List.mem_of_getElem? (i := 645) (by decide +kernel)⟩
def lw_privs_1 : List (MethodName × Nat) := [(⟨"FlushPlanner$Battery", "wornTimes", "()I"⟩, 6), (⟨"java/lang/Throwable", "fillInStackTrace", "(I)Ljava/lang/Throwable;"⟩, 6), (⟨"FlushPlanner$SetupText", "readToken", "()V"⟩, 7), (⟨"FlushPlanner$SetupText", "readBattery", "(LFlushPlanner$Battery;)V"⟩, 7), (⟨"FlushPlanner$SetupText", "takeWord", "(Ljava/lang/String;)V"⟩, 7), (⟨"FlushPlanner$SetupText", "isWord", "(Ljava/lang/String;)Z"⟩, 7), (⟨"FlushPlanner$SetupText", "refuse", "(I)V"⟩, 7), (⟨"FlushPlanner$SetupText", "takeNumber", "(II)I"⟩, 7), (⟨"FlushPlanner$SetupText", "takeSemicolon", "()V"⟩, 7), (⟨"FlushPlanner$SetupText", "readSettings", "(LFlushPlanner$Rules;)V"⟩, 7), (⟨"FlushPlanner$SetupText", "settingAtToken", "()I"⟩, 7), (⟨"FlushPlanner$SetupText", "readSetting", "(LFlushPlanner$Rules;I)V"⟩, 7), (⟨"FlushPlanner$SetupText", "readMode", "(LFlushPlanner$Rules;)V"⟩, 7), (⟨"FlushPlanner$SetupText", "readDevices", "(LFlushPlanner$Devices;)V"⟩, 7), (⟨"FlushPlanner$Cache", "copyBlock", "(LFlushPlanner$Cache;II)V"⟩, 5), (⟨"FlushPlanner", "requireDevice", "(I)V"⟩, 10)]
theorem lw_r1 : ∀ q ∈ lw_privs_1, lw_okq q := List.forall_mem_cons.mpr ⟨lw_p0, List.forall_mem_cons.mpr ⟨lw_p1, List.forall_mem_cons.mpr ⟨lw_p2, List.forall_mem_cons.mpr ⟨lw_p3, List.forall_mem_cons.mpr ⟨lw_p4, List.forall_mem_cons.mpr ⟨lw_p5, List.forall_mem_cons.mpr ⟨lw_p6, List.forall_mem_cons.mpr ⟨lw_p7, List.forall_mem_cons.mpr ⟨lw_p8, List.forall_mem_cons.mpr ⟨lw_p9, List.forall_mem_cons.mpr ⟨lw_p10, List.forall_mem_cons.mpr ⟨lw_p11, List.forall_mem_cons.mpr ⟨lw_p12, List.forall_mem_cons.mpr ⟨lw_p13, List.forall_mem_cons.mpr ⟨lw_p14, List.forall_mem_cons.mpr ⟨lw_p15, fun _ h => absurd h List.not_mem_nil⟩⟩⟩⟩⟩⟩⟩⟩⟩⟩⟩⟩⟩⟩⟩⟩
theorem lw_p16 : lw_okq (⟨"FlushPlanner", "requireBlock", "(I)V"⟩, 10) := ⟨⟨by decide +kernel, by decide +kernel⟩, List.mem_of_getElem? (i := 26) (by decide +kernel), List.mem_of_getElem? (i := 671) (by decide +kernel), List.mem_of_getElem? (i := 672) (by decide +kernel)⟩
theorem lw_p17 : lw_okq (⟨"FlushPlanner", "requireAddress", "(I)V"⟩, 10) := ⟨⟨by decide +kernel, by decide +kernel⟩, List.mem_of_getElem? (i := 26) (by decide +kernel), List.mem_of_getElem? (i := 684) (by decide +kernel), List.mem_of_getElem? (i := 685) (by decide +kernel)⟩
theorem lw_p18 : lw_okq (⟨"FlushPlanner", "requireWritable", "(III)V"⟩, 10) := ⟨⟨by decide +kernel, by decide +kernel⟩, List.mem_of_getElem? (i := 26) (by decide +kernel), List.mem_of_getElem? (i := 732) (by decide +kernel), List.mem_of_getElem? (i := 733) (by decide +kernel)⟩
theorem lw_p19 : lw_okq (⟨"FlushPlanner", "isAllowed", "(III)Z"⟩, 10) := ⟨⟨by decide +kernel, by decide +kernel⟩, List.mem_of_getElem? (i := 26) (by decide +kernel), List.mem_of_getElem? (i := 738) (by decide +kernel), List.mem_of_getElem? (i := 739) (by decide +kernel)⟩
theorem lw_p20 : lw_okq (⟨"FlushPlanner$Cache", "isBehind", "(III)Z"⟩, 5) := ⟨⟨by decide +kernel, by decide +kernel⟩, List.mem_of_getElem? (i := 173) (by decide +kernel), List.mem_of_getElem? (i := 748) (by decide +kernel), List.mem_of_getElem? (i := 749) (by decide +kernel)⟩
theorem lw_p21 : lw_okq (⟨"FlushPlanner", "isGuarded", "(II)Z"⟩, 10) := ⟨⟨by decide +kernel, by decide +kernel⟩, List.mem_of_getElem? (i := 26) (by decide +kernel), List.mem_of_getElem? (i := 752) (by decide +kernel), List.mem_of_getElem? (i := 753) (by decide +kernel)⟩
theorem lw_p22 : lw_okq (⟨"FlushPlanner$State", "loseAll", "()I"⟩, 7) := ⟨⟨by decide +kernel, by decide +kernel⟩, List.mem_of_getElem? (i := 66) (by decide +kernel), List.mem_of_getElem? (i := 813) (by decide +kernel), List.mem_of_getElem? (i := 814) (by decide +kernel)⟩
theorem lw_p23 : lw_okq (⟨"FlushPlanner$Search", "rank", "(LFlushPlanner$State;II)V"⟩, 3) := ⟨⟨by decide +kernel, by decide +kernel⟩, List.mem_of_getElem? (i := 242) (by decide +kernel), List.mem_of_getElem? (i := 838) (by decide +kernel), List.mem_of_getElem? (i := 839) (by decide +kernel)⟩
theorem lw_p24 : lw_okq (⟨"FlushPlanner$Search", "leaveDevice", "(I)V"⟩, 3) := ⟨⟨by decide +kernel, by decide +kernel⟩, List.mem_of_getElem? (i := 242) (by decide +kernel), List.mem_of_getElem? (i := 847) (by decide +kernel), List.mem_of_getElem? (i := 848) (by decide +kernel)⟩
theorem lw_p25 : lw_okq (⟨"FlushPlanner$Search", "considerBlock", "(LFlushPlanner$State;IZI)V"⟩, 3) := ⟨⟨by decide +kernel, by decide +kernel⟩, List.mem_of_getElem? (i := 242) (by decide +kernel), List.mem_of_getElem? (i := 855) (by decide +kernel), List.mem_of_getElem? (i := 856) (by decide +kernel)⟩
theorem lw_p26 : lw_okq (⟨"FlushPlanner", "flushSet", "(I)I"⟩, 10) := ⟨⟨by decide +kernel, by decide +kernel⟩, List.mem_of_getElem? (i := 26) (by decide +kernel), List.mem_of_getElem? (i := 862) (by decide +kernel), List.mem_of_getElem? (i := 863) (by decide +kernel)⟩
theorem lw_p27 : lw_okq (⟨"FlushPlanner", "requireSet", "(I)V"⟩, 10) := ⟨⟨by decide +kernel, by decide +kernel⟩, List.mem_of_getElem? (i := 26) (by decide +kernel), List.mem_of_getElem? (i := 882) (by decide +kernel), List.mem_of_getElem? (i := 883) (by decide +kernel)⟩
theorem lw_p28 : lw_okq (⟨"FlushPlanner", "requireEnergy", "(I)V"⟩, 10) := ⟨⟨by decide +kernel, by decide +kernel⟩, List.mem_of_getElem? (i := 26) (by decide +kernel), List.mem_of_getElem? (i := 902) (by decide +kernel), List.mem_of_getElem? (i := 903) (by decide +kernel)⟩
theorem lw_p29 : lw_okq (⟨"FlushPlanner", "valueFor", "(II)I"⟩, 10) := ⟨⟨by decide +kernel, by decide +kernel⟩, List.mem_of_getElem? (i := 26) (by decide +kernel), List.mem_of_getElem? (i := 914) (by decide +kernel), List.mem_of_getElem? (i := 915) (by decide +kernel)⟩
theorem lw_p30 : lw_okq (⟨"FlushPlanner", "greedyBlocks", "(I)I"⟩, 10) := ⟨⟨by decide +kernel, by decide +kernel⟩, List.mem_of_getElem? (i := 26) (by decide +kernel), List.mem_of_getElem? (i := 925) (by decide +kernel), List.mem_of_getElem? (i := 926) (by decide +kernel)⟩
theorem lw_p31 : lw_okq (⟨"FlushPlanner", "requireSlot", "(I)V"⟩, 10) := ⟨⟨by decide +kernel, by decide +kernel⟩, List.mem_of_getElem? (i := 26) (by decide +kernel), List.mem_of_getElem? (i := 990) (by decide +kernel), List.mem_of_getElem? (i := 991) (by decide +kernel)⟩
def lw_privs_2 : List (MethodName × Nat) := [(⟨"FlushPlanner", "requireBlock", "(I)V"⟩, 10), (⟨"FlushPlanner", "requireAddress", "(I)V"⟩, 10), (⟨"FlushPlanner", "requireWritable", "(III)V"⟩, 10), (⟨"FlushPlanner", "isAllowed", "(III)Z"⟩, 10), (⟨"FlushPlanner$Cache", "isBehind", "(III)Z"⟩, 5), (⟨"FlushPlanner", "isGuarded", "(II)Z"⟩, 10), (⟨"FlushPlanner$State", "loseAll", "()I"⟩, 7), (⟨"FlushPlanner$Search", "rank", "(LFlushPlanner$State;II)V"⟩, 3), (⟨"FlushPlanner$Search", "leaveDevice", "(I)V"⟩, 3), (⟨"FlushPlanner$Search", "considerBlock", "(LFlushPlanner$State;IZI)V"⟩, 3), (⟨"FlushPlanner", "flushSet", "(I)I"⟩, 10), (⟨"FlushPlanner", "requireSet", "(I)V"⟩, 10), (⟨"FlushPlanner", "requireEnergy", "(I)V"⟩, 10), (⟨"FlushPlanner", "valueFor", "(II)I"⟩, 10), (⟨"FlushPlanner", "greedyBlocks", "(I)I"⟩, 10), (⟨"FlushPlanner", "requireSlot", "(I)V"⟩, 10)]
theorem lw_r2 : ∀ q ∈ lw_privs_2, lw_okq q := List.forall_mem_cons.mpr ⟨lw_p16, List.forall_mem_cons.mpr ⟨lw_p17, List.forall_mem_cons.mpr ⟨lw_p18, List.forall_mem_cons.mpr ⟨lw_p19, List.forall_mem_cons.mpr ⟨lw_p20, List.forall_mem_cons.mpr ⟨lw_p21, List.forall_mem_cons.mpr ⟨lw_p22, List.forall_mem_cons.mpr ⟨lw_p23, List.forall_mem_cons.mpr ⟨lw_p24, List.forall_mem_cons.mpr ⟨lw_p25, List.forall_mem_cons.mpr ⟨lw_p26, List.forall_mem_cons.mpr ⟨lw_p27, List.forall_mem_cons.mpr ⟨lw_p28, List.forall_mem_cons.mpr ⟨lw_p29, List.forall_mem_cons.mpr ⟨lw_p30, List.forall_mem_cons.mpr ⟨lw_p31, fun _ h => absurd h List.not_mem_nil⟩⟩⟩⟩⟩⟩⟩⟩⟩⟩⟩⟩⟩⟩⟩⟩
theorem lw_p32 : lw_okq (⟨"FlushPlannerModel", "plain", "()V"⟩, 18) := ⟨⟨by decide +kernel, by decide +kernel⟩, List.mem_of_getElem? (i := 1003) (by decide +kernel), List.mem_of_getElem? (i := 1009) (by decide +kernel), List.mem_of_getElem? (i := 1010) (by decide +kernel)⟩
theorem lw_p33 : lw_okq (⟨"FlushPlannerModel", "takes", "()V"⟩, 18) := ⟨⟨by decide +kernel, by decide +kernel⟩, List.mem_of_getElem? (i := 1003) (by decide +kernel), List.mem_of_getElem? (i := 1013) (by decide +kernel), List.mem_of_getElem? (i := 1014) (by decide +kernel)⟩
theorem lw_p34 : lw_okq (⟨"FlushPlannerModel", "may", "(ZI)Z"⟩, 18) := ⟨⟨by decide +kernel, by decide +kernel⟩, List.mem_of_getElem? (i := 1003) (by decide +kernel), List.mem_of_getElem? (i := 1080) (by decide +kernel), List.mem_of_getElem? (i := 1081) (by decide +kernel)⟩
theorem lw_p35 : lw_okq (⟨"FlushPlannerModel", "token", "()V"⟩, 18) := ⟨⟨by decide +kernel, by decide +kernel⟩, List.mem_of_getElem? (i := 1003) (by decide +kernel), List.mem_of_getElem? (i := 1095) (by decide +kernel), List.mem_of_getElem? (i := 1096) (by decide +kernel)⟩
theorem lw_p36 : lw_okq (⟨"FlushPlannerModel", "at", "(I)I"⟩, 18) := ⟨⟨by decide +kernel, by decide +kernel⟩, List.mem_of_getElem? (i := 1003) (by decide +kernel), List.mem_of_getElem? (i := 1099) (by decide +kernel), List.mem_of_getElem? (i := 1100) (by decide +kernel)⟩
theorem lw_p37 : lw_okq (⟨"FlushPlannerModel", "battery", "()V"⟩, 18) := ⟨⟨by decide +kernel, by decide +kernel⟩, List.mem_of_getElem? (i := 1003) (by decide +kernel), List.mem_of_getElem? (i := 1109) (by decide +kernel), List.mem_of_getElem? (i := 1110) (by decide +kernel)⟩
theorem lw_p38 : lw_okq (⟨"FlushPlannerModel", "takesWord", "(Ljava/lang/String;)Z"⟩, 18) := ⟨⟨by decide +kernel, by decide +kernel⟩, List.mem_of_getElem? (i := 1003) (by decide +kernel), List.mem_of_getElem? (i := 1114) (by decide +kernel), List.mem_of_getElem? (i := 1115) (by decide +kernel)⟩
theorem lw_p39 : lw_okq (⟨"FlushPlannerModel", "isWord", "(Ljava/lang/String;)Z"⟩, 18) := ⟨⟨by decide +kernel, by decide +kernel⟩, List.mem_of_getElem? (i := 1003) (by decide +kernel), List.mem_of_getElem? (i := 1118) (by decide +kernel), List.mem_of_getElem? (i := 1119) (by decide +kernel)⟩
theorem lw_p40 : lw_okq (⟨"FlushPlannerModel", "isWrong", "()Z"⟩, 18) := ⟨⟨by decide +kernel, by decide +kernel⟩, List.mem_of_getElem? (i := 1003) (by decide +kernel), List.mem_of_getElem? (i := 1122) (by decide +kernel), List.mem_of_getElem? (i := 1123) (by decide +kernel)⟩
theorem lw_p41 : lw_okq (⟨"FlushPlannerModel", "fails", "(I)V"⟩, 18) := ⟨⟨by decide +kernel, by decide +kernel⟩, List.mem_of_getElem? (i := 1003) (by decide +kernel), List.mem_of_getElem? (i := 1128) (by decide +kernel), List.mem_of_getElem? (i := 1129) (by decide +kernel)⟩
theorem lw_p42 : lw_okq (⟨"FlushPlannerModel", "figure", "(II)I"⟩, 18) := ⟨⟨by decide +kernel, by decide +kernel⟩, List.mem_of_getElem? (i := 1003) (by decide +kernel), List.mem_of_getElem? (i := 1132) (by decide +kernel), List.mem_of_getElem? (i := 1133) (by decide +kernel)⟩
theorem lw_p43 : lw_okq (⟨"FlushPlannerModel", "ends", "()V"⟩, 18) := ⟨⟨by decide +kernel, by decide +kernel⟩, List.mem_of_getElem? (i := 1003) (by decide +kernel), List.mem_of_getElem? (i := 1136) (by decide +kernel), List.mem_of_getElem? (i := 1137) (by decide +kernel)⟩
theorem lw_p44 : lw_okq (⟨"FlushPlannerModel", "settings", "()V"⟩, 18) := ⟨⟨by decide +kernel, by decide +kernel⟩, List.mem_of_getElem? (i := 1003) (by decide +kernel), List.mem_of_getElem? (i := 1140) (by decide +kernel), List.mem_of_getElem? (i := 1141) (by decide +kernel)⟩
theorem lw_p45 : lw_okq (⟨"FlushPlannerModel", "setting", "()I"⟩, 18) := ⟨⟨by decide +kernel, by decide +kernel⟩, List.mem_of_getElem? (i := 1003) (by decide +kernel), List.mem_of_getElem? (i := 1144) (by decide +kernel), List.mem_of_getElem? (i := 1145) (by decide +kernel)⟩
theorem lw_p46 : lw_okq (⟨"FlushPlannerModel", "mode", "()V"⟩, 18) := ⟨⟨by decide +kernel, by decide +kernel⟩, List.mem_of_getElem? (i := 1003) (by decide +kernel), List.mem_of_getElem? (i := 1154) (by decide +kernel), List.mem_of_getElem? (i := 1155) (by decide +kernel)⟩
theorem lw_p47 : lw_okq (⟨"FlushPlannerModel", "oneDevice", "()V"⟩, 18) := ⟨⟨by decide +kernel, by decide +kernel⟩, List.mem_of_getElem? (i := 1003) (by decide +kernel), List.mem_of_getElem? (i := 1162) (by decide +kernel), List.mem_of_getElem? (i := 1163) (by decide +kernel)⟩
def lw_privs_3 : List (MethodName × Nat) := [(⟨"FlushPlannerModel", "plain", "()V"⟩, 18), (⟨"FlushPlannerModel", "takes", "()V"⟩, 18), (⟨"FlushPlannerModel", "may", "(ZI)Z"⟩, 18), (⟨"FlushPlannerModel", "token", "()V"⟩, 18), (⟨"FlushPlannerModel", "at", "(I)I"⟩, 18), (⟨"FlushPlannerModel", "battery", "()V"⟩, 18), (⟨"FlushPlannerModel", "takesWord", "(Ljava/lang/String;)Z"⟩, 18), (⟨"FlushPlannerModel", "isWord", "(Ljava/lang/String;)Z"⟩, 18), (⟨"FlushPlannerModel", "isWrong", "()Z"⟩, 18), (⟨"FlushPlannerModel", "fails", "(I)V"⟩, 18), (⟨"FlushPlannerModel", "figure", "(II)I"⟩, 18), (⟨"FlushPlannerModel", "ends", "()V"⟩, 18), (⟨"FlushPlannerModel", "settings", "()V"⟩, 18), (⟨"FlushPlannerModel", "setting", "()I"⟩, 18), (⟨"FlushPlannerModel", "mode", "()V"⟩, 18), (⟨"FlushPlannerModel", "oneDevice", "()V"⟩, 18)]
theorem lw_r3 : ∀ q ∈ lw_privs_3, lw_okq q := List.forall_mem_cons.mpr ⟨lw_p32, List.forall_mem_cons.mpr ⟨lw_p33, List.forall_mem_cons.mpr ⟨lw_p34, List.forall_mem_cons.mpr ⟨lw_p35, List.forall_mem_cons.mpr ⟨lw_p36, List.forall_mem_cons.mpr ⟨lw_p37, List.forall_mem_cons.mpr ⟨lw_p38, List.forall_mem_cons.mpr ⟨lw_p39, List.forall_mem_cons.mpr ⟨lw_p40, List.forall_mem_cons.mpr ⟨lw_p41, List.forall_mem_cons.mpr ⟨lw_p42, List.forall_mem_cons.mpr ⟨lw_p43, List.forall_mem_cons.mpr ⟨lw_p44, List.forall_mem_cons.mpr ⟨lw_p45, List.forall_mem_cons.mpr ⟨lw_p46, List.forall_mem_cons.mpr ⟨lw_p47, fun _ h => absurd h List.not_mem_nil⟩⟩⟩⟩⟩⟩⟩⟩⟩⟩⟩⟩⟩⟩⟩⟩
theorem lw_p48 : lw_okq (⟨"FlushPlannerModel", "isDevice", "(I)Z"⟩, 18) := ⟨⟨by decide +kernel, by decide +kernel⟩, List.mem_of_getElem? (i := 1003) (by decide +kernel), List.mem_of_getElem? (i := 1182) (by decide +kernel), List.mem_of_getElem? (i := 1183) (by decide +kernel)⟩
theorem lw_p49 : lw_okq (⟨"FlushPlannerModel", "hasFailed", "(I)Z"⟩, 18) := ⟨⟨by decide +kernel, by decide +kernel⟩, List.mem_of_getElem? (i := 1003) (by decide +kernel), List.mem_of_getElem? (i := 1186) (by decide +kernel), List.mem_of_getElem? (i := 1187) (by decide +kernel)⟩
theorem lw_p50 : lw_okq (⟨"FlushPlannerModel", "setOf", "(I)I"⟩, 18) := ⟨⟨by decide +kernel, by decide +kernel⟩, List.mem_of_getElem? (i := 1003) (by decide +kernel), List.mem_of_getElem? (i := 1190) (by decide +kernel), List.mem_of_getElem? (i := 1191) (by decide +kernel)⟩
theorem lw_p51 : lw_okq (⟨"FlushPlannerModel", "deviceOf", "(I)I"⟩, 18) := ⟨⟨by decide +kernel, by decide +kernel⟩, List.mem_of_getElem? (i := 1003) (by decide +kernel), List.mem_of_getElem? (i := 1194) (by decide +kernel), List.mem_of_getElem? (i := 1195) (by decide +kernel)⟩
theorem lw_p52 : lw_okq (⟨"FlushPlannerModel", "of", "(II)I"⟩, 18) := ⟨⟨by decide +kernel, by decide +kernel⟩, List.mem_of_getElem? (i := 1003) (by decide +kernel), List.mem_of_getElem? (i := 1198) (by decide +kernel), List.mem_of_getElem? (i := 1199) (by decide +kernel)⟩
theorem lw_p53 : lw_okq (⟨"FlushPlannerModel", "valueIn", "(I)I"⟩, 18) := ⟨⟨by decide +kernel, by decide +kernel⟩, List.mem_of_getElem? (i := 1003) (by decide +kernel), List.mem_of_getElem? (i := 1205) (by decide +kernel), List.mem_of_getElem? (i := 1206) (by decide +kernel)⟩
theorem lw_p54 : lw_okq (⟨"FlushPlannerModel", "energyIn", "(I)I"⟩, 18) := ⟨⟨by decide +kernel, by decide +kernel⟩, List.mem_of_getElem? (i := 1003) (by decide +kernel), List.mem_of_getElem? (i := 1209) (by decide +kernel), List.mem_of_getElem? (i := 1210) (by decide +kernel)⟩
theorem lw_p55 : lw_okq (⟨"FlushPlannerModel", "isBlock", "(I)Z"⟩, 18) := ⟨⟨by decide +kernel, by decide +kernel⟩, List.mem_of_getElem? (i := 1003) (by decide +kernel), List.mem_of_getElem? (i := 1217) (by decide +kernel), List.mem_of_getElem? (i := 1218) (by decide +kernel)⟩
theorem lw_p56 : lw_okq (⟨"FlushPlannerModel", "isPlace", "(II)Z"⟩, 18) := ⟨⟨by decide +kernel, by decide +kernel⟩, List.mem_of_getElem? (i := 1003) (by decide +kernel), List.mem_of_getElem? (i := 1225) (by decide +kernel), List.mem_of_getElem? (i := 1226) (by decide +kernel)⟩
theorem lw_p57 : lw_okq (⟨"FlushPlannerModel", "blockAt", "(II)I"⟩, 18) := ⟨⟨by decide +kernel, by decide +kernel⟩, List.mem_of_getElem? (i := 1003) (by decide +kernel), List.mem_of_getElem? (i := 1229) (by decide +kernel), List.mem_of_getElem? (i := 1230) (by decide +kernel)⟩
theorem lw_p58 : lw_okq (⟨"FlushPlannerModel", "mayWrite", "(III)Z"⟩, 18) := ⟨⟨by decide +kernel, by decide +kernel⟩, List.mem_of_getElem? (i := 1003) (by decide +kernel), List.mem_of_getElem? (i := 1245) (by decide +kernel), List.mem_of_getElem? (i := 1246) (by decide +kernel)⟩
theorem lw_p59 : lw_okq (⟨"FlushPlannerModel", "lays", "(III)Z"⟩, 18) := ⟨⟨by decide +kernel, by decide +kernel⟩, List.mem_of_getElem? (i := 1003) (by decide +kernel), List.mem_of_getElem? (i := 1249) (by decide +kernel), List.mem_of_getElem? (i := 1250) (by decide +kernel)⟩
theorem lw_p60 : lw_okq (⟨"FlushPlannerModel", "comes", "(III)V"⟩, 18) := ⟨⟨by decide +kernel, by decide +kernel⟩, List.mem_of_getElem? (i := 1003) (by decide +kernel), List.mem_of_getElem? (i := 1253) (by decide +kernel), List.mem_of_getElem? (i := 1254) (by decide +kernel)⟩
theorem lw_p61 : lw_okq (⟨"FlushPlannerModel", "isGuarded", "()Z"⟩, 18) := ⟨⟨by decide +kernel, by decide +kernel⟩, List.mem_of_getElem? (i := 1003) (by decide +kernel), List.mem_of_getElem? (i := 1257) (by decide +kernel), List.mem_of_getElem? (i := 1258) (by decide +kernel)⟩
theorem lw_p62 : lw_okq (⟨"FlushPlannerModel", "goes", "(I)V"⟩, 18) := ⟨⟨by decide +kernel, by decide +kernel⟩, List.mem_of_getElem? (i := 1003) (by decide +kernel), List.mem_of_getElem? (i := 1261) (by decide +kernel), List.mem_of_getElem? (i := 1262) (by decide +kernel)⟩
theorem lw_p63 : lw_okq (⟨"FlushPlannerModel", "allGo", "(I)V"⟩, 18) := ⟨⟨by decide +kernel, by decide +kernel⟩, List.mem_of_getElem? (i := 1003) (by decide +kernel), List.mem_of_getElem? (i := 1273) (by decide +kernel), List.mem_of_getElem? (i := 1274) (by decide +kernel)⟩
def lw_privs_4 : List (MethodName × Nat) := [(⟨"FlushPlannerModel", "isDevice", "(I)Z"⟩, 18), (⟨"FlushPlannerModel", "hasFailed", "(I)Z"⟩, 18), (⟨"FlushPlannerModel", "setOf", "(I)I"⟩, 18), (⟨"FlushPlannerModel", "deviceOf", "(I)I"⟩, 18), (⟨"FlushPlannerModel", "of", "(II)I"⟩, 18), (⟨"FlushPlannerModel", "valueIn", "(I)I"⟩, 18), (⟨"FlushPlannerModel", "energyIn", "(I)I"⟩, 18), (⟨"FlushPlannerModel", "isBlock", "(I)Z"⟩, 18), (⟨"FlushPlannerModel", "isPlace", "(II)Z"⟩, 18), (⟨"FlushPlannerModel", "blockAt", "(II)I"⟩, 18), (⟨"FlushPlannerModel", "mayWrite", "(III)Z"⟩, 18), (⟨"FlushPlannerModel", "lays", "(III)Z"⟩, 18), (⟨"FlushPlannerModel", "comes", "(III)V"⟩, 18), (⟨"FlushPlannerModel", "isGuarded", "()Z"⟩, 18), (⟨"FlushPlannerModel", "goes", "(I)V"⟩, 18), (⟨"FlushPlannerModel", "allGo", "(I)V"⟩, 18)]
theorem lw_r4 : ∀ q ∈ lw_privs_4, lw_okq q := List.forall_mem_cons.mpr ⟨lw_p48, List.forall_mem_cons.mpr ⟨lw_p49, List.forall_mem_cons.mpr ⟨lw_p50, List.forall_mem_cons.mpr ⟨lw_p51, List.forall_mem_cons.mpr ⟨lw_p52, List.forall_mem_cons.mpr ⟨lw_p53, List.forall_mem_cons.mpr ⟨lw_p54, List.forall_mem_cons.mpr ⟨lw_p55, List.forall_mem_cons.mpr ⟨lw_p56, List.forall_mem_cons.mpr ⟨lw_p57, List.forall_mem_cons.mpr ⟨lw_p58, List.forall_mem_cons.mpr ⟨lw_p59, List.forall_mem_cons.mpr ⟨lw_p60, List.forall_mem_cons.mpr ⟨lw_p61, List.forall_mem_cons.mpr ⟨lw_p62, List.forall_mem_cons.mpr ⟨lw_p63, fun _ h => absurd h List.not_mem_nil⟩⟩⟩⟩⟩⟩⟩⟩⟩⟩⟩⟩⟩⟩⟩⟩
theorem lw_p64 : lw_okq (⟨"FlushPlannerModel", "minuteWithout", "()V"⟩, 18) := ⟨⟨by decide +kernel, by decide +kernel⟩, List.mem_of_getElem? (i := 1003) (by decide +kernel), List.mem_of_getElem? (i := 1293) (by decide +kernel), List.mem_of_getElem? (i := 1294) (by decide +kernel)⟩
theorem lw_p65 : lw_okq (⟨"FlushPlannerModel", "drains", "(I)V"⟩, 18) := ⟨⟨by decide +kernel, by decide +kernel⟩, List.mem_of_getElem? (i := 1003) (by decide +kernel), List.mem_of_getElem? (i := 1297) (by decide +kernel), List.mem_of_getElem? (i := 1298) (by decide +kernel)⟩
theorem lw_p66 : lw_okq (⟨"FlushPlannerModel", "all", "()I"⟩, 18) := ⟨⟨by decide +kernel, by decide +kernel⟩, List.mem_of_getElem? (i := 1003) (by decide +kernel), List.mem_of_getElem? (i := 1301) (by decide +kernel), List.mem_of_getElem? (i := 1302) (by decide +kernel)⟩
theorem lw_p67 : lw_okq (⟨"FlushPlannerModel", "weighs", "(I)V"⟩, 18) := ⟨⟨by decide +kernel, by decide +kernel⟩, List.mem_of_getElem? (i := 1003) (by decide +kernel), List.mem_of_getElem? (i := 1309) (by decide +kernel), List.mem_of_getElem? (i := 1310) (by decide +kernel)⟩
theorem lw_p68 : lw_okq (⟨"FlushPlannerModel", "merges", "()V"⟩, 18) := ⟨⟨by decide +kernel, by decide +kernel⟩, List.mem_of_getElem? (i := 1003) (by decide +kernel), List.mem_of_getElem? (i := 1314) (by decide +kernel), List.mem_of_getElem? (i := 1315) (by decide +kernel)⟩
theorem lw_p69 : lw_okq (⟨"FlushPlannerModel", "takesBlock", "(IZ)V"⟩, 18) := ⟨⟨by decide +kernel, by decide +kernel⟩, List.mem_of_getElem? (i := 1003) (by decide +kernel), List.mem_of_getElem? (i := 1321) (by decide +kernel), List.mem_of_getElem? (i := 1322) (by decide +kernel)⟩
theorem lw_p70 : lw_okq (⟨"FlushPlannerModel", "bestOf", "(I)I"⟩, 18) := ⟨⟨by decide +kernel, by decide +kernel⟩, List.mem_of_getElem? (i := 1003) (by decide +kernel), List.mem_of_getElem? (i := 1325) (by decide +kernel), List.mem_of_getElem? (i := 1326) (by decide +kernel)⟩
theorem lw_p71 : lw_okq (⟨"FlushPlannerModel", "leastOf", "(I)I"⟩, 18) := ⟨⟨by decide +kernel, by decide +kernel⟩, List.mem_of_getElem? (i := 1003) (by decide +kernel), List.mem_of_getElem? (i := 1329) (by decide +kernel), List.mem_of_getElem? (i := 1330) (by decide +kernel)⟩
theorem lw_p72 : lw_okq (⟨"FlushPlannerModel", "valueBy", "(I)I"⟩, 18) := ⟨⟨by decide +kernel, by decide +kernel⟩, List.mem_of_getElem? (i := 1003) (by decide +kernel), List.mem_of_getElem? (i := 1333) (by decide +kernel), List.mem_of_getElem? (i := 1334) (by decide +kernel)⟩
theorem lw_p73 : lw_okq (⟨"FlushPlannerModel", "flushes", "(I)I"⟩, 18) := ⟨⟨by decide +kernel, by decide +kernel⟩, List.mem_of_getElem? (i := 1003) (by decide +kernel), List.mem_of_getElem? (i := 1338) (by decide +kernel), List.mem_of_getElem? (i := 1339) (by decide +kernel)⟩
theorem lw_p74 : lw_okq (⟨"FlushPlannerModel", "needed", "()I"⟩, 18) := ⟨⟨by decide +kernel, by decide +kernel⟩, List.mem_of_getElem? (i := 1003) (by decide +kernel), List.mem_of_getElem? (i := 1350) (by decide +kernel), List.mem_of_getElem? (i := 1351) (by decide +kernel)⟩
theorem lw_p75 : lw_okq (⟨"FlushPlannerModel", "possible", "()I"⟩, 18) := ⟨⟨by decide +kernel, by decide +kernel⟩, List.mem_of_getElem? (i := 1003) (by decide +kernel), List.mem_of_getElem? (i := 1354) (by decide +kernel), List.mem_of_getElem? (i := 1355) (by decide +kernel)⟩
theorem lw_p76 : lw_okq (⟨"FlushPlannerModel", "isSet", "(I)Z"⟩, 18) := ⟨⟨by decide +kernel, by decide +kernel⟩, List.mem_of_getElem? (i := 1003) (by decide +kernel), List.mem_of_getElem? (i := 1362) (by decide +kernel), List.mem_of_getElem? (i := 1363) (by decide +kernel)⟩
theorem lw_p77 : lw_okq (⟨"FlushPlannerModel", "isEnergy", "(I)Z"⟩, 18) := ⟨⟨by decide +kernel, by decide +kernel⟩, List.mem_of_getElem? (i := 1003) (by decide +kernel), List.mem_of_getElem? (i := 1374) (by decide +kernel), List.mem_of_getElem? (i := 1375) (by decide +kernel)⟩
theorem lw_p78 : lw_okq (⟨"FlushPlannerModel", "valueWithin", "(II)I"⟩, 18) := ⟨⟨by decide +kernel, by decide +kernel⟩, List.mem_of_getElem? (i := 1003) (by decide +kernel), List.mem_of_getElem? (i := 1382) (by decide +kernel), List.mem_of_getElem? (i := 1383) (by decide +kernel)⟩
theorem lw_p79 : lw_okq (⟨"FlushPlannerModel", "greedyOf", "(I)I"⟩, 18) := ⟨⟨by decide +kernel, by decide +kernel⟩, List.mem_of_getElem? (i := 1003) (by decide +kernel), List.mem_of_getElem? (i := 1390) (by decide +kernel), List.mem_of_getElem? (i := 1391) (by decide +kernel)⟩
def lw_privs_5 : List (MethodName × Nat) := [(⟨"FlushPlannerModel", "minuteWithout", "()V"⟩, 18), (⟨"FlushPlannerModel", "drains", "(I)V"⟩, 18), (⟨"FlushPlannerModel", "all", "()I"⟩, 18), (⟨"FlushPlannerModel", "weighs", "(I)V"⟩, 18), (⟨"FlushPlannerModel", "merges", "()V"⟩, 18), (⟨"FlushPlannerModel", "takesBlock", "(IZ)V"⟩, 18), (⟨"FlushPlannerModel", "bestOf", "(I)I"⟩, 18), (⟨"FlushPlannerModel", "leastOf", "(I)I"⟩, 18), (⟨"FlushPlannerModel", "valueBy", "(I)I"⟩, 18), (⟨"FlushPlannerModel", "flushes", "(I)I"⟩, 18), (⟨"FlushPlannerModel", "needed", "()I"⟩, 18), (⟨"FlushPlannerModel", "possible", "()I"⟩, 18), (⟨"FlushPlannerModel", "isSet", "(I)Z"⟩, 18), (⟨"FlushPlannerModel", "isEnergy", "(I)Z"⟩, 18), (⟨"FlushPlannerModel", "valueWithin", "(II)I"⟩, 18), (⟨"FlushPlannerModel", "greedyOf", "(I)I"⟩, 18)]
theorem lw_r5 : ∀ q ∈ lw_privs_5, lw_okq q := List.forall_mem_cons.mpr ⟨lw_p64, List.forall_mem_cons.mpr ⟨lw_p65, List.forall_mem_cons.mpr ⟨lw_p66, List.forall_mem_cons.mpr ⟨lw_p67, List.forall_mem_cons.mpr ⟨lw_p68, List.forall_mem_cons.mpr ⟨lw_p69, List.forall_mem_cons.mpr ⟨lw_p70, List.forall_mem_cons.mpr ⟨lw_p71, List.forall_mem_cons.mpr ⟨lw_p72, List.forall_mem_cons.mpr ⟨lw_p73, List.forall_mem_cons.mpr ⟨lw_p74, List.forall_mem_cons.mpr ⟨lw_p75, List.forall_mem_cons.mpr ⟨lw_p76, List.forall_mem_cons.mpr ⟨lw_p77, List.forall_mem_cons.mpr ⟨lw_p78, List.forall_mem_cons.mpr ⟨lw_p79, fun _ h => absurd h List.not_mem_nil⟩⟩⟩⟩⟩⟩⟩⟩⟩⟩⟩⟩⟩⟩⟩⟩
theorem lw_p80 : lw_okq (⟨"FlushPlannerModel", "keeps", "()V"⟩, 18) := ⟨⟨by decide +kernel, by decide +kernel⟩, List.mem_of_getElem? (i := 1003) (by decide +kernel), List.mem_of_getElem? (i := 1410) (by decide +kernel), List.mem_of_getElem? (i := 1411) (by decide +kernel)⟩
theorem lw_p81 : lw_okq (⟨"FlushPlannerModel", "comesBack", "()V"⟩, 18) := ⟨⟨by decide +kernel, by decide +kernel⟩, List.mem_of_getElem? (i := 1003) (by decide +kernel), List.mem_of_getElem? (i := 1414) (by decide +kernel), List.mem_of_getElem? (i := 1415) (by decide +kernel)⟩
def lw_privs_6 : List (MethodName × Nat) := [(⟨"FlushPlannerModel", "keeps", "()V"⟩, 18), (⟨"FlushPlannerModel", "comesBack", "()V"⟩, 18)]
theorem lw_r6 : ∀ q ∈ lw_privs_6, lw_okq q := List.forall_mem_cons.mpr ⟨lw_p80, List.forall_mem_cons.mpr ⟨lw_p81, fun _ h => absurd h List.not_mem_nil⟩⟩
def lw_privs : List (MethodName × Nat) := lw_privs_1 ++ (lw_privs_2 ++ (lw_privs_3 ++ (lw_privs_4 ++ (lw_privs_5 ++ (lw_privs_6)))))
def lw_tbl : List Cond := k2_sels lw_privs ++ tables_1
theorem lw_privs_ok : ∀ q ∈ lw_privs, lw_okq q := by
  show ∀ q ∈ lw_privs_1 ++ (lw_privs_2 ++ (lw_privs_3 ++ (lw_privs_4 ++ (lw_privs_5 ++ (lw_privs_6))))), lw_okq q
  exact List.forall_mem_append.mpr ⟨lw_r1, List.forall_mem_append.mpr ⟨lw_r2, List.forall_mem_append.mpr ⟨lw_r3, List.forall_mem_append.mpr ⟨lw_r4, List.forall_mem_append.mpr ⟨lw_r5, lw_r6⟩⟩⟩⟩⟩
/-- the streams that the claim lets the run draw from -/
abbrev lw_cs : List Choice := [Jvm.Choice.named "NaN.bits"]
theorem lw_bits : nanBits ∈ lw_cs := by first | decide | exact List.mem_cons_self | simp [lw_cs, nanBits]
end
section
/-! ===== BEGIN words of one list among another's, by their places ===== -/
theorem goodIn_r {big : List Cond} (ws : List Cond) (ps : List Nat) (hp : ws = ps.filterMap (fun i => big[i]?)) (h : ws.all goodWord = true) : GoodIn big ws := by
  intro w hw
  have h1 := List.all_eq_true.mp h w hw
  rw [hp] at hw
  obtain ⟨i, -, hi⟩ := List.mem_filterMap.mp hw
  have hm : w ∈ big := by first | exact List.mem_of_getElem? hi | exact List.getElem?_mem hi
  exact ⟨hm, good_of_word h1⟩
theorem goodIn_app {big a b : List Cond} (ha : GoodIn big a) (hb : GoodIn big b) : GoodIn big (a ++ b) := fun w h => (List.mem_append.mp h).elim (ha w) (hb w)
theorem goodIn_ca {big a b : List Cond} {c : Cond} (ha : GoodIn big (c :: a)) (hb : GoodIn big b) : GoodIn big (c :: (a ++ b)) := fun w h => (List.mem_cons.mp h).elim (fun e => ha w (List.mem_cons.mpr (Or.inl e))) (fun h => (List.mem_append.mp h).elim (fun h => ha w (List.mem_cons.mpr (Or.inr h))) (hb w))
theorem goodIn_sub {big ws : List Cond} (hm : ∀ w ∈ ws, w ∈ big) (h : ws.all goodWord = true) : GoodIn big ws := fun w hw => ⟨hm w hw, good_of_word (List.all_eq_true.mp h w hw)⟩
/-! ===== END ===== -/

/-! ===== BEGIN exceptions that leave a method, and their catching by the caller (launches without stack traces) ===== -/
section VXA
/-! The laws vx_back, vx_callV, vx_callS, vx_callSW, vx_throw0, vx_throwS follow proofs of the library, with one case more: JvmDerived/Free/Laws.lean (Back.of_free), Shelf42/LK1.lean (callV, callS), Shelf/KitTraced.lean (throwNew0V, throwNewS). -/
/-- where a method has thrown q: the class by its name, the cell, what was written, the world -/
def vx_T (XC : String → State → State → Prop) (st : State) (q : Addr) (t : State) (mc ms : Nat) (free : Addr → Prop) : Prop :=
  ∃ (E : String) (ce : Cell) (L : List Loc), XC E st t ∧ t.heap[q]? = some ce ∧ ce.vm = .none ∧ st.vm.findClass E = some ce.cls ∧ st.WarmedH t.vm ∧ st.sameButNew ({ t with vm := st.vm } : State) L mc ms ∧ ∀ z ∈ L, free z.base
def vx_Q (Qc : Array Value → State → Outcome → State → Prop) (XC : String → State → State → Prop) (mc ms : Nat) (free : Addr → Prop) : Array Value → State → Outcome → State → Prop := fun a st o t =>
  (Qc a st o t ∧ ∃ L, FrameEnd st o t L mc ms ∧ ∀ q ∈ L, free q.base) ∨ ∃ q, o = .threw q ∧ vx_T XC st q t mc ms free
/-- a callee that returns or throws -/
def vx_Met (l : Launch) (y : MethodName) (ws : List Cond) (rm : Room) (Pc : Array Value → State → Prop) (Qc : Array Value → State → Outcome → State → Prop) (XC : String → State → State → Prop) (mc ms : Nat) (free : Addr → Prop) : Prop :=
  MetFree l y (headSpec ws rm) Pc (fun _ _ _ _ _ => True) (vx_Q Qc XC mc ms free)
def vx_Post (XC : String → State → State → Prop) (mc ms : Nat) (free : Addr → Prop) : Pt → Array Value → Addr → Pt → Prop := fun A a q B =>
  ∃ (g : JFrame) (mk : MethodId) (t : State) (L : List Loc) (E : String) (ce : Cell), B.U.heap = t.heap ∧ B.U.vm = t.vm ∧ XC E (A.U.calling g mk a) t ∧ t.heap[q]? = some ce ∧ ce.vm = .none ∧ A.U.vm.findClass E = some ce.cls ∧ B.locs = A.locs ++ L ∧ (∀ z ∈ L, free z.base) ∧ B.cells = A.cells + mc ∧ B.slots = A.slots + ms
def vx_Back (l : Launch) (R : Room) (p : Program) (e : Env) (below : List Frame) (s : State) (sargs : Array Value) (y : MethodName) (len W9 : Nat)
    (Pre : Pt → Array Value → Prop) (Post : Pt → Array Value → Option Value → Pt → Prop) (PostX : Pt → Array Value → Addr → Pt → Prop) : Prop :=
  ∀ (m : MethodId) (meth : Method) (c : Code) (A : Pt) (g : JFrame) (ig : Instr) (mk : MethodId) (a : Array Value),
    Stand p l e R s m sargs below meth c A.U A.locs A.cells A.slots → g.method = m → g.locals.size = c.maxLocals → decode c.code g.pc = .ok (ig, len) →
    2 * g.monitorRoom + (g.stack.map fun v => v.category).sum ≤ W9 → A.U.methodNamed? y = some mk → Pre A a →
    (∃ (v : Option Value) (B : Pt), Stand p l e R s m sargs below meth c B.U B.locs B.cells B.slots ∧ Post A a v B ∧
      Steps p.tables e below (doInvoke e (A.U.setTop g) [] mk a).1 (B.U.setTop { g with pc := g.pc + len, stack := v.toList ++ g.stack })) ∨
    (∃ (q : Addr) (B : Pt), Stand p l e R s m sargs below meth c B.U B.locs B.cells B.slots ∧ PostX A a q B ∧
      Steps p.tables e below (doInvoke e (A.U.setTop g) [] mk a).1 ((B.U.setTop g).pushFrame (.throwing q)))
section Payer
variable {l : Launch} {R : Room} {p : Program} {e : Env} {below : List Frame} {s : State} {sargs : Array Value} {y : MethodName} {len W9 : Nat}
theorem vx_back {ws : List Cond} {rm : Room} {Pc : Array Value → State → Prop} {Qc : Array Value → State → Outcome → State → Prop} {XC : String → State → State → Prop} {mc ms : Nat} {free : Addr → Prop} {bytes : ByteArray} {maxL : Nat} {ret : Option FieldType}
    (hM : vx_Met l y ws rm Pc Qc XC mc ms free) (hblind : FrameBlind Pc) (hrc : rm.cells = mc) (hrs : rm.slots = ms)
    (hframes : rm.frames + 1 ≤ R.frames) (hlocals : W9 + (maxL + 11) + rm.locals ≤ R.locals)
    (hws : ∀ w ∈ ws, ∀ a' U, s.WarmedH U.vm → w.before a' U = true) (hcode : Cond.code y bytes maxL ret ∈ ws) (hinit : ∀ a' U, s.WarmedH U.vm → (Cond.initialized y.cls).before a' U = true) :
    vx_Back l R p e below s sargs y len W9 (PreOf R mc ms Pc) (PostOf Qc mc ms free) (vx_Post XC mc ms free) := by
  intro m meth c A g ig mk a X hg hsize hdg hW hn hp
  have h1 : (headSpec ws rm).pre.before a A.U = true := atoms_intro fun w hw => hws w hw _ _ X.warmed
  have h2 : (Cond.code y bytes maxL ret).before a A.U = true := hws _ hcode _ _ X.warmed
  have h3 : (Cond.initialized y.cls).before a A.U = true := hinit _ _ X.warmed
  have h4 : A.cells + (headSpec ws rm).room.cells ≤ R.cells := by rw [show (headSpec ws rm).room.cells = mc from hrc]; exact hp.1
  have h5 : A.slots + (headSpec ws rm).room.slots ≤ R.slots := by rw [show (headSpec ws rm).room.slots = ms from hrs]; exact hp.2.1
  have hPc : Pc a (A.U.calling g mk a) := hblind _ _ _ _ hp.2.2
  obtain ⟨U, Ls, c0, s0⟩ := A
  dsimp only [Pt.U, Pt.locs, Pt.cells, Pt.slots] at h1 h2 h3 h4 h5 X hn hPc ⊢
  obtain ⟨methY, cY, hmY, hcY, -, hlY, -, -, -, -⟩ := Cond.code_spec hn h2
  obtain ⟨kY, hkY, -⟩ := className_of_methodNamed hn
  have hinitY : kY.init = .initialized := Cond.initialized_spec (findClass_of_methodNamed hn) hkY h3
  have h : At U g.method c below := by rw [hg]; exact X.here
  have hlocals9 : W9 + (maxL + 11) + (headSpec ws rm).room.locals ≤ R.locals := hlocals
  have happ : (headSpec ws rm).appliesLoose y e.platform (U.calling g mk a) = true :=
    Spec.appliesLoose_calling (g := g) h hdg hn hkY hinitY
      (X.room_calling (g := g) (R' := (headSpec ws rm).room) hsize hmY hcY hframes (by rw [hlY]; omega) h4 h5) h1
  obtain ⟨mid, hmid⟩ := h.above
  have hfr : (U.setTop g).frames = (.java g :: mid) ++ below := by rw [State.frames_setTop' g h.top, hmid]; rfl
  obtain ⟨o, s₂, hsteps, -, hend, hq⟩ := Steps.callFree hM p X.admits X.cas X.clock (acts := []) hfr happ hPc trivial
  have hq' : vx_Q Qc XC mc ms free a (U.calling g mk a) o s₂ := hq
  rw [State.frames_setTop' g h.top] at hend
  obtain ⟨g₀, hg0⟩ := Option.isSome_iff_exists.mp h.top
  obtain ⟨r, hr⟩ := State.topJava?_eq_some.mp hg0
  have hr' : (({ U with heap := s₂.heap, slotsUsed := s₂.slotsUsed } : State).setVm s₂.vm).frames = .java g₀ :: r := hr
  rcases hq' with ⟨hqc, L, hfe, hL⟩ | ⟨q, rfl, E, ce, L, hx, hce, hcv, hcl, hW₂, hsm, hL⟩
  · obtain ⟨⟨v, rfl⟩, hW₂, e2, q2, q3, q4, q5, q6⟩ := id hfe
    have e3 : s₂ = ({ (U.calling g mk a).setFrames s₂.frames with heap := s₂.heap, slotsUsed := s₂.slotsUsed } : State).setVm s₂.vm := by
      have : s₂ = ({ s₂ with vm := (U.calling g mk a).vm } : State).setVm s₂.vm := rfl
      rw [e2] at this
      exact this
    obtain ⟨c₂, i₂, len₂, hc₂, hd₂, hf₂⟩ := hend
    have hW' : U.WarmedH s₂.vm := hW₂
    have hcc : c₂ = c := by
      have h1 : s₂.code? g.method = U.code? g.method := by
        rw [State.code?_eq, State.code?_eq, hW'.alike.method?]
      exact Option.some.inj (hc₂.symm.trans (h1.trans h.code))
    subst hcc
    have hlen : len₂ = len := by rw [hdg] at hd₂; cases hd₂; rfl
    subst hlen
    have hs₂ : s₂ = (({ U with heap := s₂.heap, slotsUsed := s₂.slotsUsed } : State).setVm s₂.vm).setTop { g with pc := g.pc + len₂, stack := v.toList ++ g.stack } := by
      refine e3.trans ?_
      rw [hf₂, State.calling_eq h.top, State.setFrames_setFrames, State.setTop_of_frames _ hr', hr]
      rfl
    have hsame : U.sameButNew ({ U with heap := s₂.heap, slotsUsed := s₂.slotsUsed } : State) L mc ms := by
      refine ⟨?_, q2, q3, q4, q5, q6⟩
      obtain ⟨t, ht, -⟩ := State.frames_cons hr
      show ({ U with heap := s₂.heap, slotsUsed := s₂.slotsUsed } : State) = { U.setFrames U.frames with heap := s₂.heap, slotsUsed := s₂.slotsUsed }
      rw [State.setFrames_self ht]
    subst hg
    refine Or.inl ⟨v, ⟨(({ U with heap := s₂.heap, slotsUsed := s₂.slotsUsed } : State).setVm s₂.vm), Ls ++ L, c0 + mc, s0 + ms⟩,
      ⟨X.admits, X.cas, X.clock, X.frames, X.room, X.hears, X.method, X.code, (X.here.setHeapUsed s₂.heap s₂.slotsUsed).setVm hW'.alike, X.tail, State.WarmedH.trans X.warmed hW', X.limits, X.bytes, X.same.trans (hsame.setVm s.vm)⟩,
      ⟨g, mk, s₂, L, rfl, rfl, hqc, rfl, hL, rfl, rfl⟩, ?_⟩
    show Steps p.tables e below _ ((({ U with heap := s₂.heap, slotsUsed := s₂.slotsUsed } : State).setVm s₂.vm).setTop { g with pc := g.pc + len₂, stack := v.toList ++ g.stack })
    rw [← hs₂]
    exact hsteps
  · obtain ⟨e2, q2, q3, q4, q5, q6⟩ := id hsm
    have e3 : s₂ = ({ (U.calling g mk a).setFrames s₂.frames with heap := s₂.heap, slotsUsed := s₂.slotsUsed } : State).setVm s₂.vm := by
      have : s₂ = ({ s₂ with vm := (U.calling g mk a).vm } : State).setVm s₂.vm := rfl
      rw [e2] at this
      exact this
    have hf₂ : s₂.frames = .throwing q :: .java g :: U.frames.tail := hend
    have hW' : U.WarmedH s₂.vm := hW₂
    have hs₂ : s₂ = ((({ U with heap := s₂.heap, slotsUsed := s₂.slotsUsed } : State).setVm s₂.vm).setTop g).pushFrame (.throwing q) := by
      refine e3.trans ?_
      rw [hf₂, State.calling_eq h.top, State.setFrames_setFrames, State.pushFrame, State.frames_setTop _ hr', State.setTop_of_frames _ hr', State.setFrames_setFrames, hr]
      rfl
    have hsame : U.sameButNew ({ U with heap := s₂.heap, slotsUsed := s₂.slotsUsed } : State) L mc ms := by
      refine ⟨?_, q2, q3, q4, q5, q6⟩
      obtain ⟨t, ht, -⟩ := State.frames_cons hr
      show ({ U with heap := s₂.heap, slotsUsed := s₂.slotsUsed } : State) = { U.setFrames U.frames with heap := s₂.heap, slotsUsed := s₂.slotsUsed }
      rw [State.setFrames_self ht]
    subst hg
    refine Or.inr ⟨q, ⟨(({ U with heap := s₂.heap, slotsUsed := s₂.slotsUsed } : State).setVm s₂.vm), Ls ++ L, c0 + mc, s0 + ms⟩,
      ⟨X.admits, X.cas, X.clock, X.frames, X.room, X.hears, X.method, X.code, (X.here.setHeapUsed s₂.heap s₂.slotsUsed).setVm hW'.alike, X.tail, State.WarmedH.trans X.warmed hW', X.limits, X.bytes, X.same.trans (hsame.setVm s.vm)⟩,
      ⟨g, mk, s₂, L, E, ce, rfl, rfl, hx, hce, hcv, hcl, rfl, hL, rfl, rfl⟩, ?_⟩
    show Steps p.tables e below _ (((({ U with heap := s₂.heap, slotsUsed := s₂.slotsUsed } : State).setVm s₂.vm).setTop g).pushFrame (.throwing q))
    rw [← hs₂]
    exact hsteps
end Payer
section Calls
variable {p : Program} {l : Launch} {e : Env} {R : Room} {s : State} {m : MethodId} {args : Array Value} {below : List Frame} {meth : Method} {c : Code} {T : State} {locs : List Loc} {cells slots : Nat}
theorem vx_callV (X : Stand p l e R s m args below meth c T locs cells slots) (hexec : p.tables.exec = Jvm.exec) {own C : String} {index : Nat} {y : MethodName} {bytes : ByteArray} {maxL : Nat} {ret : Option FieldType}
    (hown : s.vm.findClass own = some m.cls) (hlink : (Cond.methodLink own index y).before args s = true) (hinst : (Cond.instanceMethod y).before args s = true) (hsel : (Cond.selects C y y).before args s = true)
    (hcode : (Cond.code y bytes maxL ret).before args s = true) (hy : y.cls ≠ "java/lang/invoke/MethodHandle" ∧ y.cls ≠ "java/lang/invoke/VarHandle")
    {W9 : Nat} {Pre : Pt → Array Value → Prop} {Post : Pt → Array Value → Option Value → Pt → Prop} {PostX : Pt → Array Value → Addr → Pt → Prop} (hK : vx_Back l R p e below s args y 3 W9 Pre Post PostX)
    {b : Addr} {cellB : Cell} (hcell : T.heap[b]? = some cellB) (hobj : cellB.vm.isStatics = false) (hcls : s.vm.findClass C = some cellB.cls)
    {g : JFrame} (hg : g.method = m) (hsize : g.locals.size = c.maxLocals) {argsL rest : List Value} (hlen : ∀ sig, parseMethodDescriptor y.desc = some sig → argsL.length = sig.parameters.length)
    (hstack : g.stack = argsL.reverse ++ .ref b :: rest) (hW : 2 * g.monitorRoom + (rest.map fun v => v.category).sum ≤ W9) (hdg : decode c.code g.pc = .ok (.invokevirtual index, 3))
    (hpre : ∀ vm₁, s.WarmedH vm₁ → Pre ⟨T.setVm vm₁, locs, cells, slots⟩ (Value.ref b :: argsL).toArray) :
    (∃ (v : Option Value) (vm₁ : Vm) (B : Pt), s.WarmedH vm₁ ∧ Stand p l e R s m args below meth c B.U B.locs B.cells B.slots ∧ Post ⟨T.setVm vm₁, locs, cells, slots⟩ (Value.ref b :: argsL).toArray v B ∧
      ∀ target, Steps p.tables e below (B.U.setTop { g with pc := g.pc + 3, stack := v.toList ++ rest }) target → Steps p.tables e below (T.setTop g) target) ∨
    (∃ (q : Addr) (vm₁ : Vm) (B : Pt), s.WarmedH vm₁ ∧ Stand p l e R s m args below meth c B.U B.locs B.cells B.slots ∧ PostX ⟨T.setVm vm₁, locs, cells, slots⟩ (Value.ref b :: argsL).toArray q B ∧
      Steps p.tables e below (T.setTop g) ((B.U.setTop { g with stack := rest }).pushFrame (.throwing q))) := by
  obtain ⟨mk, methM, hnamed, hmethM, hstM, habM⟩ := Cond.instanceMethod_spec hinst
  obtain ⟨methM', cM, hmethM', -, -, -, -, -, -, hsigM⟩ := Cond.code_spec hnamed hcode
  cases hmethM.symm.trans hmethM'
  obtain ⟨c2, r2, m2, q1, q2, q3, q4, kP, hkP, hkPi⟩ := Cond.selects_spec hsel
  cases hcls.symm.trans q1
  cases (State.methodFound?_of_named hnamed hy).symm.trans q2
  cases hnamed.symm.trans q3
  have hselP : selectMethod e.platform s.vm cellB.cls mk = .method mk := by rw [Launch.admits_selectMethod X.admits]; exact q4
  obtain ⟨vm₁, X₁, hstep₁⟩ := X.invokevirtual hexec hown hlink hnamed hmethM hstM hkP hkPi hy (a := b) (cell := cellB) hcell
    (fun z h => by rw [h] at hobj; cases hobj) hselP hmethM habM hkP hkPi (g := g) hg (argsL := argsL) (rest := rest) (hlen _ hsigM) hstack hdg
  rcases hK m meth c ⟨T.setVm vm₁, locs, cells, slots⟩ { g with stack := rest } (.invokevirtual index) mk (Value.ref b :: argsL).toArray X₁ hg hsize hdg hW (X₁.named hnamed) (hpre vm₁ X₁.warmed) with ⟨v, B, X', hpost, hsteps⟩ | ⟨q, B, X', hpost, hsteps⟩
  · exact Or.inl ⟨v, vm₁, B, X₁.warmed, X', hpost, fun target h => hstep₁ _ fun acts => by rw [doInvoke_state]; exact hsteps.trans h⟩
  · exact Or.inr ⟨q, vm₁, B, X₁.warmed, X', hpost, hstep₁ _ fun acts => by rw [doInvoke_state]; exact hsteps⟩
theorem vx_callS (X : Stand p l e R s m args below meth c T locs cells slots) (hexec : p.tables.exec = Jvm.exec) {own : String} {index : Nat} {y : MethodName} {bytes : ByteArray} {maxL : Nat} {ret : Option FieldType}
    (hown : s.vm.findClass own = some m.cls) (hlink : (Cond.methodLink own index y).before args s = true) (hstat : (Cond.static y).before args s = true) (hinit : (Cond.initialized y.cls).before args s = true)
    (hcode : (Cond.code y bytes maxL ret).before args s = true) (hy : y.cls ≠ "java/lang/invoke/MethodHandle" ∧ y.cls ≠ "java/lang/invoke/VarHandle")
    {W9 : Nat} {Pre : Pt → Array Value → Prop} {Post : Pt → Array Value → Option Value → Pt → Prop} {PostX : Pt → Array Value → Addr → Pt → Prop} (hK : vx_Back l R p e below s args y 3 W9 Pre Post PostX)
    {g : JFrame} (hg : g.method = m) (hsize : g.locals.size = c.maxLocals) {argsL rest : List Value} (hlen : ∀ sig, parseMethodDescriptor y.desc = some sig → argsL.length = sig.parameters.length)
    (hstack : g.stack = argsL.reverse ++ rest) (hW : 2 * g.monitorRoom + (rest.map fun v => v.category).sum ≤ W9) (hdg : decode c.code g.pc = .ok (.invokestatic index, 3))
    (hpre : ∀ vm₁, s.WarmedH vm₁ → Pre ⟨T.setVm vm₁, locs, cells, slots⟩ argsL.toArray) :
    (∃ (v : Option Value) (vm₁ : Vm) (B : Pt), s.WarmedH vm₁ ∧ Stand p l e R s m args below meth c B.U B.locs B.cells B.slots ∧ Post ⟨T.setVm vm₁, locs, cells, slots⟩ argsL.toArray v B ∧
      ∀ target, Steps p.tables e below (B.U.setTop { g with pc := g.pc + 3, stack := v.toList ++ rest }) target → Steps p.tables e below (T.setTop g) target) ∨
    (∃ (q : Addr) (vm₁ : Vm) (B : Pt), s.WarmedH vm₁ ∧ Stand p l e R s m args below meth c B.U B.locs B.cells B.slots ∧ PostX ⟨T.setVm vm₁, locs, cells, slots⟩ argsL.toArray q B ∧
      Steps p.tables e below (T.setTop g) ((B.U.setTop { g with stack := rest }).pushFrame (.throwing q))) := by
  obtain ⟨mk, hnamed⟩ := Cond.code_named hcode
  obtain ⟨methM, cM, hmethM, -, -, -, -, -, -, hsigM⟩ := Cond.code_spec hnamed hcode
  have hstatic : methM.isStatic = true := Cond.static_spec hnamed hmethM hstat
  obtain ⟨kP, hkP, -⟩ := className_of_methodNamed hnamed
  have hinitP : kP.init = .initialized := Cond.initialized_spec (findClass_of_methodNamed hnamed) hkP hinit
  obtain ⟨vm₁, X₁, hstep₁⟩ := X.invokestatic hexec hown hlink hnamed hmethM hstatic hkP hinitP hy (g := g) hg (argsL := argsL) (rest := rest) (hlen _ hsigM) hstack hdg
  rcases hK m meth c ⟨T.setVm vm₁, locs, cells, slots⟩ { g with stack := rest } (.invokestatic index) mk argsL.toArray X₁ hg hsize hdg hW (X₁.named hnamed) (hpre vm₁ X₁.warmed) with ⟨v, B, X', hpost, hsteps⟩ | ⟨q, B, X', hpost, hsteps⟩
  · exact Or.inl ⟨v, vm₁, B, X₁.warmed, X', hpost, fun target h => hstep₁ _ fun acts => by rw [doInvoke_state]; exact hsteps.trans h⟩
  · exact Or.inr ⟨q, vm₁, B, X₁.warmed, X', hpost, hstep₁ _ fun acts => by rw [doInvoke_state]; exact hsteps⟩
end Calls
theorem vx_cls {s : State} {T : State} {vm₁ : Vm} {E : String} {k : ClassId} (hW : s.WarmedH vm₁) (h : (T.setVm vm₁).vm.findClass E = some k) : s.vm.findClass E = some k := by
  have h1 : vm₁.findClass E = some k := h
  rw [hW.alike.findClass] at h1
  exact h1
/-- the method's frame g, with q thrown over it -/
def vx_W (p : Program) (l : Launch) (e : Env) (R : Room) (s : State) (m : MethodId) (args : Array Value) (below : List Frame) (meth : Method) (c : Code) (H : Heap) (locs : List Loc) (cells slots : Nat) (Q : State → Prop) (g : JFrame) (q : Addr) : Prop :=
  ∀ T : State, T.heap = H → Stand p l e R s m args below meth c T locs cells slots → ∃ t, Steps p.tables e below ((T.setTop g).pushFrame (.throwing q)) t ∧ Q t
def vx_Run (p : Program) (l : Launch) (e : Env) (R : Room) (s : State) (m : MethodId) (args : Array Value) (below : List Frame) (meth : Method) (c : Code) (H : Heap) (locs : List Loc) (cells slots mc ms : Nat) (g : JFrame) (rest : List Value) (Qa : State → Outcome → State → Prop) (XC : String → State → State → Prop) (free : Addr → Prop) : Prop :=
  ∀ T : State, T.heap = H → Stand p l e R s m args below meth c T locs cells slots →
    (∃ (v : Option Value) (st₀ t T' : State) (L : List Loc), st₀.heap = H ∧ Stand p l e R s m args below meth c T' (locs ++ L) (cells + mc) (slots + ms) ∧ (∀ q ∈ L, free q.base) ∧ T'.heap = t.heap ∧ T'.vm = t.vm ∧ Qa st₀ (.returned v) t ∧
      Goes p e below T g T' { g with pc := g.pc + 3, stack := v.toList ++ rest }) ∨
    (∃ (q : Addr) (st₀ t T' : State) (L : List Loc) (E : String) (ce : Cell), st₀.heap = H ∧ Stand p l e R s m args below meth c T' (locs ++ L) (cells + mc) (slots + ms) ∧ (∀ z ∈ L, free z.base) ∧ T'.heap = t.heap ∧ T'.vm = t.vm ∧ XC E st₀ t ∧ t.heap[q]? = some ce ∧ ce.vm = .none ∧ s.vm.findClass E = some ce.cls ∧
      Steps p.tables e below (T.setTop g) ((T'.setTop { g with stack := rest }).pushFrame (.throwing q)))
def vx_X {S : Type} (px : S → Prop) (B : String → S → State → Prop) (A : Nat → Prop) : String → State → State → Prop := fun E st t => ∃ u : S, px u ∧ B E u t ∧ va_F A st t
section Runs
variable {p : Program} {l : Launch} {e : Env} {R : Room} {s : State} {m : MethodId} {args : Array Value} {below : List Frame} {meth : Method} {c : Code} {H : Heap} {locs : List Loc} {cells slots : Nat}
variable {y : MethodName} {bytes cc : ByteArray} {maxL nL mc ms n index : Nat} {ret : Option FieldType} {ws : List Cond} {rm : Room} {Pc : Array Value → State → Prop} {Qc : Array Value → State → Outcome → State → Prop} {XC : String → State → State → Prop} {free : Addr → Prop} {Ts : List Cond} {own C : String} {b : Addr} {As rest : List Value} {g : JFrame}
theorem vx_callBack (cb : CallB R s args own index y bytes maxL ret ws rm mc ms n) (hM : vx_Met l y ws rm Pc Qc XC mc ms free) (hbl : FrameBlind Pc) : vx_Back l R p e below s args y 3 8 (PreOf R mc ms Pc) (PostOf Qc mc ms free) (vx_Post XC mc ms free) := by
  obtain ⟨hrc, hrs, hfr, hlo, hws, hcw, -, hini, -⟩ := cb
  exact vx_back (bytes := bytes) (maxL := maxL) (ret := ret) hM hbl hrc hrs hfr hlo hws hcw (fun a' U hW => word_at hW (Or.inl (by first | rfl | simp [Cond.onTables, Cond.keeps, Cond.steady])) hini)
theorem vx_runV (S : CallFix p m c cc nL s args Ts own) (hM : vx_Met l y ws rm Pc Qc XC mc ms free) (cw : CallW R s args own C index y bytes maxL ret ws rm mc ms n) (hp : PreV s H C b Pc As)
    (hg : g.method = m) (hn : As.length = n) (hsize : g.locals.size = nL) (hstack : g.stack = As.reverse ++ .ref b :: rest) (hW : 2 * g.monitorRoom + (rest.map fun v => v.category).sum ≤ 8) (hdg : decode cc g.pc = .ok (.invokevirtual index, 3)) (hf : cells + mc ≤ R.cells ∧ slots + ms ≤ R.slots) :
    vx_Run p l e R s m args below meth c H locs cells slots mc ms g rest (Qc (Value.ref b :: As).toArray) XC free := by
  have hK : vx_Back l R p e below s args y 3 8 (PreOf R mc ms Pc) (PostOf Qc mc ms free) (vx_Post XC mc ms free) := vx_callBack cw.1 hM hp.1
  obtain ⟨⟨-, -, -, -, -, -, hcode, -, hy, hlen, hl⟩, hin, hse⟩ := cw
  obtain ⟨hx, hb, hml, ho, -⟩ := S
  obtain ⟨-, ⟨cellB, hcB, hoB, hclB⟩, hPc⟩ := hp
  intro T hT X
  rcases vx_callV X hx (C := C) (bytes := bytes) (maxL := maxL) (ret := ret) ho hl hin hse hcode hy hK (by rw [hT]; exact hcB) hoB hclB hg (hsize.trans hml.symm) (argsL := As) (rest := rest) (fun sig h => hn.trans (hlen sig h)) hstack hW (by rw [hb]; exact hdg)
    (fun vm₁ hW₁ => ⟨hf.1, hf.2, hPc (T.setVm vm₁) hT hW₁⟩) with ⟨v, vm₁, ⟨U', l2, c2, s2⟩, hW₁, X', ⟨g', mk, t, L, e1, e2, hq, h1, hL, h2, h3⟩, st⟩ | ⟨q, vm₁, ⟨U', l2, c2, s2⟩, hW₁, X', ⟨g', mk, t, L, E, ce, e1, e2, hq, hce, hcv, hcl, h1, hL, h2, h3⟩, st⟩
  · dsimp only [Pt.U, Pt.locs, Pt.cells, Pt.slots] at X' e1 e2 h1 h2 h3 st
    subst h1; subst h2; subst h3
    exact Or.inl ⟨v, (T.setVm vm₁).calling g' mk (Value.ref b :: As).toArray, t, U', L, hT, X', hL, e1, e2, hq, st⟩
  · dsimp only [Pt.U, Pt.locs, Pt.cells, Pt.slots] at X' e1 e2 h1 h2 h3 st hcl
    subst h1; subst h2; subst h3
    exact Or.inr ⟨q, (T.setVm vm₁).calling g' mk (Value.ref b :: As).toArray, t, U', L, E, ce, hT, X', hL, e1, e2, hq, hce, hcv, vx_cls hW₁ hcl, st⟩
theorem vx_runS (S : CallFix p m c cc nL s args Ts own) (hM : vx_Met l y ws rm Pc Qc XC mc ms free) (cw : CallB R s args own index y bytes maxL ret ws rm mc ms n ∧ (Cond.static y).before args s = true) (hp : PreS s H Pc As)
    (hg : g.method = m) (hn : As.length = n) (hsize : g.locals.size = nL) (hstack : g.stack = As.reverse ++ rest) (hW : 2 * g.monitorRoom + (rest.map fun v => v.category).sum ≤ 8) (hdg : decode cc g.pc = .ok (.invokestatic index, 3)) (hf : cells + mc ≤ R.cells ∧ slots + ms ≤ R.slots) :
    vx_Run p l e R s m args below meth c H locs cells slots mc ms g rest (Qc As.toArray) XC free := by
  have hK : vx_Back l R p e below s args y 3 8 (PreOf R mc ms Pc) (PostOf Qc mc ms free) (vx_Post XC mc ms free) := vx_callBack cw.1 hM hp.1
  obtain ⟨⟨-, -, -, -, -, -, hcode, hini, hy, hlen, hl⟩, hstt⟩ := cw
  obtain ⟨hx, hb, hml, ho, -⟩ := S
  intro T hT X
  rcases vx_callS X hx (bytes := bytes) (maxL := maxL) (ret := ret) ho hl hstt hini hcode hy hK hg (hsize.trans hml.symm) (argsL := As) (rest := rest) (fun sig h => hn.trans (hlen sig h)) hstack hW (by rw [hb]; exact hdg)
    (fun vm₁ hW₁ => ⟨hf.1, hf.2, hp.2 (T.setVm vm₁) hT hW₁⟩) with ⟨v, vm₁, ⟨U', l2, c2, s2⟩, hW₁, X', ⟨g', mk, t, L, e1, e2, hq, h1, hL, h2, h3⟩, st⟩ | ⟨q, vm₁, ⟨U', l2, c2, s2⟩, hW₁, X', ⟨g', mk, t, L, E, ce, e1, e2, hq, hce, hcv, hcl, h1, hL, h2, h3⟩, st⟩
  · dsimp only [Pt.U, Pt.locs, Pt.cells, Pt.slots] at X' e1 e2 h1 h2 h3 st
    subst h1; subst h2; subst h3
    exact Or.inl ⟨v, (T.setVm vm₁).calling g' mk As.toArray, t, U', L, hT, X', hL, e1, e2, hq, st⟩
  · dsimp only [Pt.U, Pt.locs, Pt.cells, Pt.slots] at X' e1 e2 h1 h2 h3 st hcl
    subst h1; subst h2; subst h3
    exact Or.inr ⟨q, (T.setVm vm₁).calling g' mk As.toArray, t, U', L, E, ce, hT, X', hL, e1, e2, hq, hce, hcv, vx_cls hW₁ hcl, st⟩
end Runs
section Rows
variable {p : Program} {l : Launch} {e : Env} {R : Room} {s : State} {m : MethodId} {args : Array Value} {below : List Frame} {meth : Method} {c : Code} {H : Heap} {locs : List Loc} {cells slots : Nat} {Q : State → Prop}
variable {mc ms : Nat} {free : Addr → Prop} {A0 A1 : Nat → Prop} {H0 : Heap} {a : Array Value} {pc : Nat} {ls : Array Slot} {st0 rest : List Value}
theorem vx_keep {st₀ t T' : State} {L : List Loc} (h0 : st₀.heap = H) (e1 : T'.heap = t.heap) (hS : va_S A0 H0 H locs) (hA : ∀ q, q < H.size → A1 q → A0 q) (hf : ∀ q, free q → A0 q) (hL : ∀ q ∈ L, free q.base) (hF : va_F A1 st₀ t) :
    H.size ≤ T'.heap.size ∧ (∀ q : Nat, q < H.size → ¬ A1 q → T'.heap[q]? = H[q]?) ∧ va_S A0 H0 T'.heap (locs ++ L) := by
  obtain ⟨hz, hk⟩ := hF
  rw [h0] at hz hk
  exact ⟨by rw [e1]; exact hz, fun q h1 h2 => by rw [e1]; exact hk q h1 h2,
    ⟨Nat.le_trans hS.1 (by rw [e1]; exact hz), fun q h1 h2 => by rw [e1, hk q (Nat.lt_of_lt_of_le h1 hS.1) (fun z => h2 (hA q (Nat.lt_of_lt_of_le h1 hS.1) z))]; exact hS.2.1 q h1 h2, fun q hq => by
      rcases List.mem_append.mp hq with h | h
      · exact hS.2.2 q h
      · exact hf _ (hL q h)⟩⟩
theorem vx_calli {S SX : Type} {post : Int32 → S → Prop} {px : SX → Prop} {B : S → State → Prop} {BX : String → SX → State → Prop} {AX : Nat → Prop} (hr : vx_Run p l e R s m args below meth c H locs cells slots mc ms (F0 m pc ls st0) rest (va_Qi post B A1 a) (vx_X px BX AX) free) (hS : va_S A0 H0 H locs) (hA : ∀ q, q < H.size → A1 q → A0 q) (hf : ∀ q, free q → A0 q) (hAX : ∀ q, q < H.size → AX q → A0 q)
    (kx : ∀ (E : String) (ce : Cell) (q9 : Addr) (u : SX) (t : State) (H1 : Heap) (locs1 : List Loc), t.heap = H1 → s.vm.Alike t.vm → px u → BX E u t → H.size ≤ H1.size → (∀ q : Nat, q < H.size → ¬ AX q → H1[q]? = H[q]?) → va_S A0 H0 H1 locs1 → H1[q9]? = some ce → ce.vm = .none → s.vm.findClass E = some ce.cls → vx_W p l e R s m args below meth c H1 locs1 (cells + mc) (slots + ms) Q (F0 m pc ls rest) q9)
    (kk : ∀ (r : Int32) (u : S) (t : State) (H1 : Heap) (locs1 : List Loc), t.heap = H1 → s.vm.Alike t.vm → post r u → B u t → H.size ≤ H1.size → (∀ q : Nat, q < H.size → ¬ A1 q → H1[q]? = H[q]?) → va_S A0 H0 H1 locs1 → W p l e R s m args below meth c H1 locs1 (cells + mc) (slots + ms) Q (F0 m (pc + 3) ls (.int r :: rest))) : W p l e R s m args below meth c H locs cells slots Q (F0 m pc ls st0) := by
  intro T hT X
  rcases hr T hT X with ⟨v, st₀, t, T', L, h0, X', hL, e1, e2, ⟨⟨r, u, hv, hp, hb⟩, hF⟩, st⟩ | ⟨q, st₀, t, T', L, E, ce, h0, X', hL, e1, e2, ⟨u, hp, hb, hF⟩, hce, hcv, hcl, st⟩
  · cases hv
    obtain ⟨k1, k2, k3⟩ := vx_keep h0 e1 hS hA hf hL hF
    obtain ⟨t2, a1, b1⟩ := kk r u t T'.heap (locs ++ L) e1.symm (by rw [← e2]; exact X'.warmed.alike) hp hb k1 k2 k3 T' rfl X'
    exact ⟨t2, st t2 a1, b1⟩
  · obtain ⟨k1, k2, k3⟩ := vx_keep h0 e1 hS hAX hf hL hF
    obtain ⟨t2, a1, b1⟩ := kx E ce q u t T'.heap (locs ++ L) e1.symm (by rw [← e2]; exact X'.warmed.alike) hp hb k1 k2 k3 (by rw [e1]; exact hce) hcv hcl T' rfl X'
    exact ⟨t2, st.trans a1, b1⟩
theorem vx_calll {S SX : Type} {post : Int64 → S → Prop} {px : SX → Prop} {B : S → State → Prop} {BX : String → SX → State → Prop} {AX : Nat → Prop} (hr : vx_Run p l e R s m args below meth c H locs cells slots mc ms (F0 m pc ls st0) rest (va_Ql post B A1 a) (vx_X px BX AX) free) (hS : va_S A0 H0 H locs) (hA : ∀ q, q < H.size → A1 q → A0 q) (hf : ∀ q, free q → A0 q) (hAX : ∀ q, q < H.size → AX q → A0 q)
    (kx : ∀ (E : String) (ce : Cell) (q9 : Addr) (u : SX) (t : State) (H1 : Heap) (locs1 : List Loc), t.heap = H1 → s.vm.Alike t.vm → px u → BX E u t → H.size ≤ H1.size → (∀ q : Nat, q < H.size → ¬ AX q → H1[q]? = H[q]?) → va_S A0 H0 H1 locs1 → H1[q9]? = some ce → ce.vm = .none → s.vm.findClass E = some ce.cls → vx_W p l e R s m args below meth c H1 locs1 (cells + mc) (slots + ms) Q (F0 m pc ls rest) q9)
    (kk : ∀ (r : Int64) (u : S) (t : State) (H1 : Heap) (locs1 : List Loc), t.heap = H1 → s.vm.Alike t.vm → post r u → B u t → H.size ≤ H1.size → (∀ q : Nat, q < H.size → ¬ A1 q → H1[q]? = H[q]?) → va_S A0 H0 H1 locs1 → W p l e R s m args below meth c H1 locs1 (cells + mc) (slots + ms) Q (F0 m (pc + 3) ls (.long r :: rest))) : W p l e R s m args below meth c H locs cells slots Q (F0 m pc ls st0) := by
  intro T hT X
  rcases hr T hT X with ⟨v, st₀, t, T', L, h0, X', hL, e1, e2, ⟨⟨r, u, hv, hp, hb⟩, hF⟩, st⟩ | ⟨q, st₀, t, T', L, E, ce, h0, X', hL, e1, e2, ⟨u, hp, hb, hF⟩, hce, hcv, hcl, st⟩
  · cases hv
    obtain ⟨k1, k2, k3⟩ := vx_keep h0 e1 hS hA hf hL hF
    obtain ⟨t2, a1, b1⟩ := kk r u t T'.heap (locs ++ L) e1.symm (by rw [← e2]; exact X'.warmed.alike) hp hb k1 k2 k3 T' rfl X'
    exact ⟨t2, st t2 a1, b1⟩
  · obtain ⟨k1, k2, k3⟩ := vx_keep h0 e1 hS hAX hf hL hF
    obtain ⟨t2, a1, b1⟩ := kx E ce q u t T'.heap (locs ++ L) e1.symm (by rw [← e2]; exact X'.warmed.alike) hp hb k1 k2 k3 (by rw [e1]; exact hce) hcv hcl T' rfl X'
    exact ⟨t2, st.trans a1, b1⟩
theorem vx_callf {S SX : Type} {post : UInt32 → S → Prop} {px : SX → Prop} {B : S → State → Prop} {BX : String → SX → State → Prop} {AX : Nat → Prop} (hr : vx_Run p l e R s m args below meth c H locs cells slots mc ms (F0 m pc ls st0) rest (va_Qf post B A1 a) (vx_X px BX AX) free) (hS : va_S A0 H0 H locs) (hA : ∀ q, q < H.size → A1 q → A0 q) (hf : ∀ q, free q → A0 q) (hAX : ∀ q, q < H.size → AX q → A0 q)
    (kx : ∀ (E : String) (ce : Cell) (q9 : Addr) (u : SX) (t : State) (H1 : Heap) (locs1 : List Loc), t.heap = H1 → s.vm.Alike t.vm → px u → BX E u t → H.size ≤ H1.size → (∀ q : Nat, q < H.size → ¬ AX q → H1[q]? = H[q]?) → va_S A0 H0 H1 locs1 → H1[q9]? = some ce → ce.vm = .none → s.vm.findClass E = some ce.cls → vx_W p l e R s m args below meth c H1 locs1 (cells + mc) (slots + ms) Q (F0 m pc ls rest) q9)
    (kk : ∀ (r : UInt32) (u : S) (t : State) (H1 : Heap) (locs1 : List Loc), t.heap = H1 → s.vm.Alike t.vm → post r u → B u t → H.size ≤ H1.size → (∀ q : Nat, q < H.size → ¬ A1 q → H1[q]? = H[q]?) → va_S A0 H0 H1 locs1 → W p l e R s m args below meth c H1 locs1 (cells + mc) (slots + ms) Q (F0 m (pc + 3) ls (.float r :: rest))) : W p l e R s m args below meth c H locs cells slots Q (F0 m pc ls st0) := by
  intro T hT X
  rcases hr T hT X with ⟨v, st₀, t, T', L, h0, X', hL, e1, e2, ⟨⟨r, u, hv, hp, hb⟩, hF⟩, st⟩ | ⟨q, st₀, t, T', L, E, ce, h0, X', hL, e1, e2, ⟨u, hp, hb, hF⟩, hce, hcv, hcl, st⟩
  · cases hv
    obtain ⟨k1, k2, k3⟩ := vx_keep h0 e1 hS hA hf hL hF
    obtain ⟨t2, a1, b1⟩ := kk r u t T'.heap (locs ++ L) e1.symm (by rw [← e2]; exact X'.warmed.alike) hp hb k1 k2 k3 T' rfl X'
    exact ⟨t2, st t2 a1, b1⟩
  · obtain ⟨k1, k2, k3⟩ := vx_keep h0 e1 hS hAX hf hL hF
    obtain ⟨t2, a1, b1⟩ := kx E ce q u t T'.heap (locs ++ L) e1.symm (by rw [← e2]; exact X'.warmed.alike) hp hb k1 k2 k3 (by rw [e1]; exact hce) hcv hcl T' rfl X'
    exact ⟨t2, st.trans a1, b1⟩
theorem vx_calld {S SX : Type} {post : UInt64 → S → Prop} {px : SX → Prop} {B : S → State → Prop} {BX : String → SX → State → Prop} {AX : Nat → Prop} (hr : vx_Run p l e R s m args below meth c H locs cells slots mc ms (F0 m pc ls st0) rest (va_Qd post B A1 a) (vx_X px BX AX) free) (hS : va_S A0 H0 H locs) (hA : ∀ q, q < H.size → A1 q → A0 q) (hf : ∀ q, free q → A0 q) (hAX : ∀ q, q < H.size → AX q → A0 q)
    (kx : ∀ (E : String) (ce : Cell) (q9 : Addr) (u : SX) (t : State) (H1 : Heap) (locs1 : List Loc), t.heap = H1 → s.vm.Alike t.vm → px u → BX E u t → H.size ≤ H1.size → (∀ q : Nat, q < H.size → ¬ AX q → H1[q]? = H[q]?) → va_S A0 H0 H1 locs1 → H1[q9]? = some ce → ce.vm = .none → s.vm.findClass E = some ce.cls → vx_W p l e R s m args below meth c H1 locs1 (cells + mc) (slots + ms) Q (F0 m pc ls rest) q9)
    (kk : ∀ (r : UInt64) (u : S) (t : State) (H1 : Heap) (locs1 : List Loc), t.heap = H1 → s.vm.Alike t.vm → post r u → B u t → H.size ≤ H1.size → (∀ q : Nat, q < H.size → ¬ A1 q → H1[q]? = H[q]?) → va_S A0 H0 H1 locs1 → W p l e R s m args below meth c H1 locs1 (cells + mc) (slots + ms) Q (F0 m (pc + 3) ls (.double r :: rest))) : W p l e R s m args below meth c H locs cells slots Q (F0 m pc ls st0) := by
  intro T hT X
  rcases hr T hT X with ⟨v, st₀, t, T', L, h0, X', hL, e1, e2, ⟨⟨r, u, hv, hp, hb⟩, hF⟩, st⟩ | ⟨q, st₀, t, T', L, E, ce, h0, X', hL, e1, e2, ⟨u, hp, hb, hF⟩, hce, hcv, hcl, st⟩
  · cases hv
    obtain ⟨k1, k2, k3⟩ := vx_keep h0 e1 hS hA hf hL hF
    obtain ⟨t2, a1, b1⟩ := kk r u t T'.heap (locs ++ L) e1.symm (by rw [← e2]; exact X'.warmed.alike) hp hb k1 k2 k3 T' rfl X'
    exact ⟨t2, st t2 a1, b1⟩
  · obtain ⟨k1, k2, k3⟩ := vx_keep h0 e1 hS hAX hf hL hF
    obtain ⟨t2, a1, b1⟩ := kx E ce q u t T'.heap (locs ++ L) e1.symm (by rw [← e2]; exact X'.warmed.alike) hp hb k1 k2 k3 (by rw [e1]; exact hce) hcv hcl T' rfl X'
    exact ⟨t2, st.trans a1, b1⟩
theorem vx_callv {S SX : Type} {post : S → Prop} {px : SX → Prop} {B : S → State → Prop} {BX : String → SX → State → Prop} {AX : Nat → Prop} (hr : vx_Run p l e R s m args below meth c H locs cells slots mc ms (F0 m pc ls st0) rest (va_Qv post B A1 a) (vx_X px BX AX) free) (hS : va_S A0 H0 H locs) (hA : ∀ q, q < H.size → A1 q → A0 q) (hf : ∀ q, free q → A0 q) (hAX : ∀ q, q < H.size → AX q → A0 q)
    (kx : ∀ (E : String) (ce : Cell) (q9 : Addr) (u : SX) (t : State) (H1 : Heap) (locs1 : List Loc), t.heap = H1 → s.vm.Alike t.vm → px u → BX E u t → H.size ≤ H1.size → (∀ q : Nat, q < H.size → ¬ AX q → H1[q]? = H[q]?) → va_S A0 H0 H1 locs1 → H1[q9]? = some ce → ce.vm = .none → s.vm.findClass E = some ce.cls → vx_W p l e R s m args below meth c H1 locs1 (cells + mc) (slots + ms) Q (F0 m pc ls rest) q9)
    (kk : ∀ (u : S) (t : State) (H1 : Heap) (locs1 : List Loc), t.heap = H1 → s.vm.Alike t.vm → post u → B u t → H.size ≤ H1.size → (∀ q : Nat, q < H.size → ¬ A1 q → H1[q]? = H[q]?) → va_S A0 H0 H1 locs1 → W p l e R s m args below meth c H1 locs1 (cells + mc) (slots + ms) Q (F0 m (pc + 3) ls (rest))) : W p l e R s m args below meth c H locs cells slots Q (F0 m pc ls st0) := by
  intro T hT X
  rcases hr T hT X with ⟨v, st₀, t, T', L, h0, X', hL, e1, e2, ⟨⟨u, hv, hp, hb⟩, hF⟩, st⟩ | ⟨q, st₀, t, T', L, E, ce, h0, X', hL, e1, e2, ⟨u, hp, hb, hF⟩, hce, hcv, hcl, st⟩
  · cases hv
    obtain ⟨k1, k2, k3⟩ := vx_keep h0 e1 hS hA hf hL hF
    obtain ⟨t2, a1, b1⟩ := kk u t T'.heap (locs ++ L) e1.symm (by rw [← e2]; exact X'.warmed.alike) hp hb k1 k2 k3 T' rfl X'
    exact ⟨t2, st t2 a1, b1⟩
  · obtain ⟨k1, k2, k3⟩ := vx_keep h0 e1 hS hAX hf hL hF
    obtain ⟨t2, a1, b1⟩ := kx E ce q u t T'.heap (locs ++ L) e1.symm (by rw [← e2]; exact X'.warmed.alike) hp hb k1 k2 k3 (by rw [e1]; exact hce) hcv hcl T' rfl X'
    exact ⟨t2, st.trans a1, b1⟩
/-- caught by the row x of this method's table; the rows ahead don't take it -/
theorem vx_catch {own name : String} {E : String} {ce : Cell} {q : Addr} (hown : s.vm.findClass own = some m.cls) (pre : List ExceptionTableEntry) (x : ExceptionTableEntry) (suf : List ExceptionTableEntry) (hsplit : c.exceptionTable.toList = pre ++ x :: suf)
    (hpass : ∀ z ∈ pre, covers z pc = false ∨ (z.catchType ≠ 0 ∧ ∃ nm : String, (Cond.classLink own z.catchType nm).before args s = true ∧ va_Nc E nm s)) (hx : covers x pc = true) (h0 : x.catchType ≠ 0)
    (hlink : (Cond.classLink own x.catchType name).before args s = true) (hcast : (Cond.castable E name).before args s = true) (hcell : H[q]? = some ce) (hv : ce.vm = .none) (hcl : s.vm.findClass E = some ce.cls)
    (kk : W p l e R s m args below meth c H locs cells slots Q (F0 m x.handlerPc ls [.ref q])) : vx_W p l e R s m args below meth c H locs cells slots Q (F0 m pc ls rest) q := by
  intro T hT X
  have hpl : e.platform.magicAccessors = ({} : Platform).magicAccessors := by rw [X.admits.platform]
  obtain ⟨c3, c4, hc3, hc4, hasg⟩ := Cond.castable_spec hcast
  cases Option.some.inj (hc3.symm.trans hcl)
  obtain ⟨c5, hc5, hcl5⟩ := Cond.classLink_spec hown hlink e.platform hpl
  cases Option.some.inj (hc4.symm.trans hc5)
  obtain ⟨vm', X', st⟩ := X.thenCaughtThrough q (g := F0 m pc ls rest) rfl (Steps.refl _) (by rw [hT]; exact hcell) (by rw [hv]; rfl) (by obtain ⟨k9, h9, -⟩ := Vm.findClass_spec hcl; exact ⟨k9, h9⟩) pre x suf hsplit
    (fun z hz => by
      rcases hpass z hz with h | ⟨hz0, nm, hl1, hn1⟩
      · exact Or.inl h
      · obtain ⟨c6, hc6, hcl6⟩ := Cond.classLink_spec hown hl1 e.platform hpl
        obtain ⟨a8, b8, h1, h2, h3⟩ := hn1
        cases Option.some.inj (h1.symm.trans hcl)
        cases Option.some.inj (h2.symm.trans hc6)
        exact Or.inr ⟨hz0, _, hcl6, h3⟩) hx (Or.inr ⟨h0, c4, hcl5, hasg⟩)
  obtain ⟨t, a1, b1⟩ := kk (T.setVm vm') hT X'
  exact ⟨t, st.trans a1, b1⟩
end Rows
section Ends
variable {p : Program} {l : Launch} {e : Env} {R : Room} {s : State} {m : MethodId} {args : Array Value} {below : List Frame} {meth : Method} {c : Code} {H : Heap} {locs : List Loc} {cells slots : Nat} {Q : State → Prop}
variable {mc ms : Nat} {free : Addr → Prop} {A0 A1 : Nat → Prop} {H0 : Heap} {a : Array Value} {ls : Array Slot} {st0 rest : List Value}
variable {Qc : Array Value → State → Outcome → State → Prop} {XC : String → State → State → Prop}
/-- what a body that may throw owes at its end -/
def vx_MQ (below : List Frame) (Qc : Array Value → State → Outcome → State → Prop) (XC : String → State → State → Prop) (a : Array Value) (s : State) (mc ms : Nat) (free : Addr → Prop) : State → Prop := fun t =>
  ∃ o, t.status = .running ∧ Ended t below o ∧ vx_Q Qc XC mc ms free a s o t
theorem vx_ret {g : JFrame} {mc ms : Nat} (k : W p l e R s m args below meth c H locs cells slots (MQ below Qc args s mc ms free) g) : W p l e R s m args below meth c H locs cells slots (vx_MQ below Qc XC args s mc ms free) g := by
  intro T hT X
  obtain ⟨t, a1, o, b1, b2, b3, b4⟩ := k T hT X
  exact ⟨t, a1, o, b1, b2, Or.inl ⟨b3, b4⟩⟩
/-- not caught here: it goes on to the caller -/
theorem vx_widen {g : JFrame} {q : Addr} {k n : Nat} (h1 : cells ≤ k) (h2 : slots ≤ n) (kk : vx_W p l e R s m args below meth c H locs k n Q g q) : vx_W p l e R s m args below meth c H locs cells slots Q g q := fun T hT X => kk T hT (stand_widen X h1 h2)
theorem vx_out {pc : Nat} {E : String} {ce : Cell} {q : Addr} {mc ms : Nat} (hout : ∀ x ∈ c.exceptionTable.toList, covers x pc = false) (hlocks : meth.locks = false) (hcell : H[q]? = some ce) (hv : ce.vm = .none) (hcl : s.vm.findClass E = some ce.cls)
    (hx : ∀ t : State, t.heap = H → s.vm.Alike t.vm → XC E s t) (hf : ∀ z ∈ locs, free z.base) (hc : cells ≤ mc) (hs : slots ≤ ms) :
    vx_W p l e R s m args below meth c H locs cells slots (vx_MQ below Qc XC args s mc ms free) (F0 m pc ls rest) q := by
  intro T hT X
  obtain ⟨st1, hrun, hend, hW, hsm⟩ := X.leaveThrown q (g := F0 m pc ls rest) rfl rfl rfl hout hlocks
  have hcell9 : (T.setFrames (.throwing q :: below)).heap[q]? = some ce := by
    show T.heap[q]? = some ce
    rw [hT]; exact hcell
  exact ⟨_, st1, .threw q, hrun, hend, Or.inr ⟨q, rfl, E, ce, locs, hx _ hT hW.alike, hcell9, hv, hcl, hW, hsm.mono hc hs, hf⟩⟩
theorem vx_frame {U : State} {k n : Nat} (h : s.sameButNew ({ U with vm := s.vm } : State) locs k n) : s.heap.size ≤ U.heap.size ∧ ∀ q : Nat, q < s.heap.size → (∀ z ∈ locs, z.base ≠ q) → U.heap[q]? = s.heap[q]? := by
  obtain ⟨-, h2, -, -, -, h6⟩ := h
  refine ⟨h2, fun q hq hz => ?_⟩
  obtain ⟨c9, e1, e2, e3, e4⟩ := h6 q _ (Array.getElem?_eq_getElem hq)
  have hs : c9.slots = (s.heap[q]).slots := Array.ext_getElem? fun i => e4 i fun hm => hz _ hm rfl
  have h9 : c9 = s.heap[q] := by
    rw [hs] at e2
    exact e2
  have e5 : U.heap[q]? = some c9 := e1
  rw [e5, h9, Array.getElem?_eq_getElem hq]
/-- the words of a throw but the four that speak of the heap -/
def vx_no (w : Cond) : Bool := decide (w ≠ .isRef (.static Bundle.tN "UNASSIGNED_STACK" Bundle.steD)) && decide (w ≠ .isRef (.static Bundle.tN "SUPPRESSED_SENTINEL" Bundle.listD)) && decide (w ≠ .laysStatic Bundle.tN "UNASSIGNED_STACK" Bundle.steD) && decide (w ≠ .laysStatic Bundle.tN "SUPPRESSED_SENTINEL" Bundle.listD)
def vx_at0 (own : String) (ic : Nat) (X : String) (names : List String) : List Cond := (Bundle.ownAtoms0 own ic X names).filter vx_no
def vx_atS (own : String) (ic : Nat) (X : String) (names : List String) : List Cond := (Bundle.ownAtoms own ic X names).filter vx_no
/-- a word that the tables alone decide, or a good one -/
def vx_ot (w : Cond) : Bool := w.onTables || goodWord w
theorem vx_ot_at {args a' : Array Value} {s U : State} {w : Cond} (hW : s.WarmedH U.vm) (hvm : s.vm = U.vm) (hg : vx_ot w = true) (h : w.before args s = true) : w.before a' U = true := by
  simp only [vx_ot, Bool.or_eq_true] at hg
  rcases hg with hg | hg
  · exact va_tabs hg hvm h
  · exact word_at hW (good_of_word hg) h
/-- a list's words: the good ones out of the method's own list, the others by premises of their own -/
theorem vx_hat {args : Array Value} {s : State} {L B : List Cond} (h1 : ∀ w ∈ L.filter goodWord, w.before args s = true) (h2 : ∀ w ∈ L.filter (fun w => !goodWord w), w ∈ B) (h3 : ∀ w ∈ B, w.before args s = true) : ∀ w ∈ L, w.before args s = true := by
  intro w hw
  by_cases g : goodWord w = true
  · exact h1 w (List.mem_filter.mpr ⟨hw, g⟩)
  · refine h3 w (h2 w (List.mem_filter.mpr ⟨hw, ?_⟩))
    show (!goodWord w) = true
    cases hgw : goodWord w
    · rfl
    · exact absurd hgw g
theorem vx_c {args : Array Value} {s : State} {w : Cond} {B : List Cond} (h : w.before args s = true) (t : ∀ w ∈ B, w.before args s = true) : ∀ w' ∈ w :: B, w'.before args s = true := fun w' h' => (List.mem_cons.mp h').elim (fun e => by rw [e]; exact h) (t w')
theorem vx_n {args : Array Value} {s : State} : ∀ w ∈ ([] : List Cond), w.before args s = true := fun _ h => nomatch h
theorem vx_own {args : Array Value} {s : State} {L : List Cond} (h1 : ∀ w ∈ L.filter vx_no, w.before args s = true)
    (hU : (Cond.isRef (.static Bundle.tN "UNASSIGNED_STACK" Bundle.steD)).before args s = true) (hN : (Cond.isRef (.static Bundle.tN "SUPPRESSED_SENTINEL" Bundle.listD)).before args s = true)
    (lU : (Cond.laysStatic Bundle.tN "UNASSIGNED_STACK" Bundle.steD).before args s = true) (lN : (Cond.laysStatic Bundle.tN "SUPPRESSED_SENTINEL" Bundle.listD).before args s = true) : ∀ w ∈ L, w.before args s = true := by
  intro w hw
  by_cases e1 : w = .isRef (.static Bundle.tN "UNASSIGNED_STACK" Bundle.steD)
  · rw [e1]; exact hU
  · by_cases e2 : w = .isRef (.static Bundle.tN "SUPPRESSED_SENTINEL" Bundle.listD)
    · rw [e2]; exact hN
    · by_cases e3 : w = .laysStatic Bundle.tN "UNASSIGNED_STACK" Bundle.steD
      · rw [e3]; exact lU
      · by_cases e4 : w = .laysStatic Bundle.tN "SUPPRESSED_SENTINEL" Bundle.listD
        · rw [e4]; exact lN
        · exact h1 w (List.mem_filter.mpr ⟨hw, by unfold vx_no; rw [decide_eq_true e1, decide_eq_true e2, decide_eq_true e3, decide_eq_true e4]; rfl⟩)
/-- where a static field lies, its class's statics cell in H -/
def vx_L (C n d : String) (A : Nat → Prop) (U : State) (H : Heap) : Prop := ∃ (c : ClassId) (k : Class) (i : Nat) (f : Field) (a : Nat) (cell : Cell), U.vm.findClass C = some c ∧ U.fieldFound? C n d = some (c, k, i, f) ∧ f.isStatic = true ∧ k.statics = some a ∧ H[a]? = some cell ∧ cell.vm.isStatics = true ∧ cell.cls = c ∧ f.slot < cell.slots.size ∧ k.staticTypes[f.slot]? = some f.type ∧ ¬ A a
theorem vx_L.moved {C n d : String} {A : Nat → Prop} {u U : State} {H : Heap} (hvm : u.vm.Alike U.vm) (h : vx_L C n d A u H) : vx_L C n d A U H := by
  obtain ⟨c, k, i, f, a, cell, h1, h2, h3, h4, h5, h6, h7, h8, h9, h10⟩ := h
  obtain ⟨k', hi', he⟩ := State.fieldFound?_setVm hvm h2
  exact ⟨c, k', i, f, a, cell, by rw [hvm.findClass]; exact h1, hi', h3, by rw [he]; exact h4, h5, h6, h7, h8, by rw [he]; exact h9, h10⟩
theorem vx_L.kept {C n d : String} {A : Nat → Prop} {U : State} {H H1 : Heap} (h : vx_L C n d A U H) (hq : ∀ a : Nat, a < H.size → ¬ A a → H1[a]? = H[a]?) : vx_L C n d A U H1 := by
  obtain ⟨c, k, i, f, a, cell, h1, h2, h3, h4, h5, h6, h7, h8, h9, h10⟩ := h
  exact ⟨c, k, i, f, a, cell, h1, h2, h3, h4, by rw [hq a (Array.getElem?_eq_some_iff.mp h5).1 h10]; exact h5, h6, h7, h8, h9, h10⟩
theorem vx_L.narrow {C n d : String} {A B : Nat → Prop} {U : State} {H : Heap} (h : vx_L C n d A U H) (hAB : ∀ q, B q → A q) : vx_L C n d B U H := by
  obtain ⟨c, k, i, f, a, cell, h1, h2, h3, h4, h5, h6, h7, h8, h9, h10⟩ := h
  exact ⟨c, k, i, f, a, cell, h1, h2, h3, h4, h5, h6, h7, h8, h9, fun z => h10 (hAB _ z)⟩
theorem vx_L.word {C n d : String} {A : Nat → Prop} {s : State} {args : Array Value} (h : vx_L C n d A s s.heap) : (Cond.laysStatic C n d).before args s = true := by
  obtain ⟨c, k, i, f, a, cell, h1, h2, h3, h4, h5, h6, h7, h8, h9, -⟩ := h
  show (Cond.laysStatic C n d).holds args s none s [] = true
  exact Cond.laysStatic_of h1 h2 h3 h4 h5 h6 h7 h8 h9
/-- .. and what it holds: null or some reference -/
def vx_Zq (C n d : String) (A : Nat → Prop) (U : State) (H : Heap) : Prop := va_Zq C n d A U H ∧ vx_L C n d A U H
theorem vx_Zq.moved {C n d : String} {A : Nat → Prop} {u U : State} {H : Heap} (hvm : u.vm.Alike U.vm) (h : vx_Zq C n d A u H) : vx_Zq C n d A U H := ⟨va_Zq.moved hvm h.1, vx_L.moved hvm h.2⟩
theorem vx_Zq.kept {C n d : String} {A : Nat → Prop} {U : State} {H H1 : Heap} (h : vx_Zq C n d A U H) (hq : ∀ a : Nat, a < H.size → ¬ A a → H1[a]? = H[a]?) : vx_Zq C n d A U H1 := ⟨va_Zq.kept h.1 hq, vx_L.kept h.2 hq⟩
theorem vx_Zq.narrow {C n d : String} {A B : Nat → Prop} {U : State} {H : Heap} (h : vx_Zq C n d A U H) (hAB : ∀ q, B q → A q) : vx_Zq C n d B U H := ⟨va_Zq.narrow h.1 hAB, vx_L.narrow h.2 hAB⟩
theorem vx_Zqof {args : Array Value} {s : State} {C n d : String} {A : Nat → Prop} (hl : (Cond.laysStatic C n d).before args s = true) (hini : (Cond.initialized C).before args s = true) (h : (Cond.isRef (.static C n d)).before args s = true) (hA : ∀ a : Nat, a < s.heap.size → ¬ A a) : vx_Zq C n d A s s.heap := by
  refine ⟨va_Zqof hl hini h hA, ?_⟩
  obtain ⟨c, k, i, f, a, cell, h1, h2, h3, h4, h5, h6, h7, h8, h9⟩ := Cond.laysStatic_spec hl
  exact ⟨c, k, i, f, a, cell, h1, h2, h3, h4, h5, h6, h7, h8, h9, hA a (Array.getElem?_eq_some_iff.mp h5).1⟩
theorem vx_isRef {C n d : String} {v : Value} {A : Nat → Prop} {s : State} {args : Array Value} (h : va_Z C n d v A s s.heap) (hv : v.isRef = true) : (Cond.isRef (.static C n d)).before args s = true := by
  obtain ⟨cf, kf, fi, f, a, cell, h1, h2, h3, h4, h5, h6, h7, -⟩ := h
  have he : (Term.static C n d).eval args s none [] s = some v := by
    simp [Term.eval, State.fieldNamed?, h1, h2, h4, h5, h6, h7]
  simp only [Cond.before, Cond.holds, Cond.value, he]
  cases v <;> simp_all [Value.isRef]
theorem vx_isRefq {C n d : String} {A : Nat → Prop} {s : State} {args : Array Value} (h : va_Zq C n d A s s.heap) : (Cond.isRef (.static C n d)).before args s = true := by
  rcases h with h | ⟨t, h⟩
  · exact vx_isRef h rfl
  · exact vx_isRef h rfl
/-- the same frame, seen from here: as if the method were called anew in this heap -/
theorem vx_rebase {T : State} (X : Stand p l e R s m args below meth c T locs cells slots) {R' : Room} (hf : R'.frames ≤ R.frames) (hl : R'.locals ≤ R.locals) (hc : cells + R'.cells ≤ R.cells) (hs : slots + R'.slots ≤ R.slots) :
    Stand p l e R' ((T.setVm s.vm).setFrames (.invoking m args :: below)) m args below meth c T [] 0 0 := by
  have htop : (T.setVm s.vm).topJava?.isSome := X.here.top
  have hF : ((T.setVm s.vm).setFrames (.invoking m args :: below)).frames = .invoking m args :: below := State.frames_setFrames _ (State.cur_lt_of_top htop)
  obtain ⟨g₀, hg0⟩ := Option.isSome_iff_exists.mp htop
  obtain ⟨r, hr⟩ := State.topJava?_eq_some.mp hg0
  have hl9 : e.platform.stackLimits (T.setVm s.vm).me = e.platform.stackLimits s.me := X.limits
  have hb9 : (T.setVm s.vm).me.stackBytes = s.me.stackBytes := X.bytes
  refine ⟨X.admits, X.cas, X.clock, hF, ?_, X.hears, X.method, X.code, X.here, X.tail, X.warmed, ?_, ?_, ?_⟩
  · have h := X.room
    have hU : ((T.setVm s.vm).setFrames (.invoking m args :: below)).localsInUse = s.localsInUse := by
      rw [State.localsInUse_invoking hF (meth := meth) (c := c) X.method X.code, State.localsInUse_invoking X.frames X.method X.code]
    simp only [State.hasRoom, Bool.and_eq_true, decide_eq_true_eq] at h ⊢
    obtain ⟨⟨⟨⟨h1, h2, h3, h4, h5, h6⟩, h7⟩, h8⟩, h9⟩ := h
    rw [X.frames, List.length_cons] at h2 h3
    have q1 := X.heapSize
    have q2 := X.used
    simp only [hF, hU, List.length_cons, State.stackLimits_setFrames, State.stackBytes_setFrames, hl9, hb9]
    refine ⟨⟨⟨⟨by omega, by omega, by omega, by omega, by omega, h6⟩, ?_⟩, ?_⟩, X.book⟩
    · show T.heap.size + R'.cells ≤ e.platform.maxCells
      omega
    · show T.slotsUsed + R'.slots ≤ e.platform.maxSlots
      omega
  · rw [State.stackLimits_setFrames]; rfl
  · rw [State.stackBytes_setFrames]; rfl
  · refine ⟨?_, Nat.le_refl _, Nat.le_refl _, ?_, ?_, fun a c9 h9 => ⟨c9, h9, rfl, rfl, fun _ _ => rfl⟩⟩
    · obtain ⟨t, ht, -⟩ := State.frames_cons hr
      show T.setVm s.vm = { ((T.setVm s.vm).setFrames (.invoking m args :: below)).setFrames (T.setVm s.vm).frames with heap := T.heap, slotsUsed := T.slotsUsed }
      rw [State.setFrames_setFrames, State.setFrames_self ht]
      rfl
    · show T.slotsUsed = T.slotsUsed + ((T.heap.toList.drop T.heap.size).map (·.slots.size)).sum
      rw [List.drop_eq_nil_of_le (Nat.le_of_eq Array.length_toList)]
      rfl
    · show ((T.heap.toList.drop T.heap.size).map (·.slots.size)).sum ≤ 0
      rw [List.drop_eq_nil_of_le (Nat.le_of_eq Array.length_toList)]
      exact Nat.le_refl _
/-- 'throw new E()': new; dup; invokespecial; athrow -/
theorem vx_throw0 {cc : ByteArray} {pc : Nat} (hexec : p.tables.exec = Jvm.exec) (hb : c.code = cc) (hl : l.stackTraces = false) {own cls : String} {names : List String} {ik ic mc ms : Nat} {A : Nat → Prop}
    (hown : s.vm.findClass own = some m.cls) (hcls : Bundle.fit cls = true) (hnames : ∀ n ∈ names, Bundle.fit n = true)
    (hk : (Cond.classLink own ik cls).before args s = true) (hini : (Cond.initialized cls).before args s = true) (hat : ∀ w ∈ vx_at0 own ic cls names, w.before args s = true)
    (hgood : ∀ w ∈ Cond.classLink own ik cls :: Cond.initialized cls :: vx_at0 own ic cls names, vx_ot w = true)
    (hU : vx_Zq Bundle.tN "UNASSIGNED_STACK" Bundle.steD A s s.heap) (hN : vx_Zq Bundle.tN "SUPPRESSED_SENTINEL" Bundle.listD A s s.heap) (hS : va_S A s.heap H locs) (hsize : ls.size = c.maxLocals)
    (d0 : decode cc pc = .ok (.new ik, 3)) (d3 : decode cc (pc + 3) = .ok (.dup, 1)) (d4 : decode cc (pc + 4) = .ok (.invokespecial ic, 3)) (d7 : decode cc (pc + 7) = .ok (.athrow, 1))
    (hout : ∀ x ∈ c.exceptionTable.toList, covers x (pc + 7) = false)
    (hRframes : names.length + 3 < R.frames) (hRlocals : (rest.map fun v => v.category).sum + (13 * (names.length + 1) + 42) ≤ R.locals) (hRcells : cells + 1 ≤ R.cells) (hRslots : slots + 6 ≤ R.slots) (hlocks : meth.locks = false)
    (hx : ∀ t : State, s.vm.Alike t.vm → H.size ≤ t.heap.size → (∀ q : Nat, q < H.size → t.heap[q]? = H[q]?) → XC cls s t)
    (hf : ∀ z ∈ locs, free z.base) (hc : cells + 1 ≤ mc) (hs : slots + 6 ≤ ms) :
    W p l e R s m args below meth c H locs cells slots (vx_MQ below Qc XC args s mc ms free) (F0 m pc ls rest) := by
  intro T hT X
  have htr : e.platform.stackTraces = false := (show e.platform.stackTraces = l.stackTraces by rw [X.admits.platform]).trans hl
  have Y := vx_rebase X (R' := { frames := R.frames, locals := R.locals, cells := 1, slots := 6 }) (Nat.le_refl _) (Nat.le_refl _) hRcells hRslots
  obtain ⟨s', hA⟩ : ∃ z, z = (T.setVm s.vm).setFrames (.invoking m args :: below) := ⟨_, rfl⟩
  rw [← hA] at Y
  have hvm : s'.vm = s.vm := by rw [hA]; rfl
  have hhp : s'.heap = H := by rw [hA]; exact hT
  have hW0 : s.WarmedH s'.vm := by rw [hvm]; exact State.WarmedH.refl s
  have hat' : ∀ w ∈ vx_at0 own ic cls names, w.before args s' = true := fun w hw => vx_ot_at hW0 hvm.symm (hgood w (List.mem_cons_of_mem _ (List.mem_cons_of_mem _ hw))) (hat w hw)
  have hk' : (Cond.classLink own ik cls).before args s' = true := vx_ot_at hW0 hvm.symm (hgood _ List.mem_cons_self) hk
  have hini' : (Cond.initialized cls).before args s' = true := vx_ot_at hW0 hvm.symm (hgood _ (List.mem_cons_of_mem _ List.mem_cons_self)) hini
  have hU' : vx_Zq Bundle.tN "UNASSIGNED_STACK" Bundle.steD A s' s'.heap := by rw [hhp]; exact vx_Zq.moved hW0.alike (hU.kept hS.2.1)
  have hN' : vx_Zq Bundle.tN "SUPPRESSED_SENTINEL" Bundle.listD A s' s'.heap := by rw [hhp]; exact vx_Zq.moved hW0.alike (hN.kept hS.2.1)
  have h : ∀ w ∈ Bundle.ownAtoms0 own ic cls names, w.before args s' = true := vx_own hat' (vx_isRefq hU'.1) (vx_isRefq hN'.1) hU'.2.word hN'.2.word
  have hown' : s'.vm.findClass own = some m.cls := by rw [hvm]; exact hown
  have hins : (Cond.instantiable cls 6).before args s' = true := h _ (by simp [Bundle.ownAtoms0])
  obtain ⟨vm₁, cX, kX, hfX, hkX, -, -, X₁, st1⟩ := Y.newCold hexec (own := own) (C := cls) (index := ik) (n := 6) hown' hk' hins hini'
    (g := F0 m pc ls rest) rfl (by rw [hb]; exact d0) (Nat.le_refl _) (Nat.le_refl _)
  generalize hT1 : (T.setVm vm₁).pushCell { cls := cX, slots := kX.instanceTypes.map defaultValue, vm := .none } = T1 at X₁ st1
  have hcat : (Value.ref T.heap.size).category = 1 := rfl
  have hcellA : T1.heap[T.heap.size]? = some (freshCell cX kX) := by rw [← hT1]; exact State.heap_pushCell_size _ _
  have d3' : decode c.code (pc + 3) = .ok (.dup, 1) := by rw [hb]; exact d3
  obtain ⟨U, hsteps, hrun, hend, hW, hsame, ce, hce, hO⟩ := X₁.ctorThrow0 hexec htr (own := own) (cls := cls) (names := names) (ic := ic) hown' hcls hnames h (fun x hx => nomatch hx) hfX hkX hcellA (by rw [hhp, hT]; exact Nat.le_refl _)
    (g := { method := m, pc := pc + 4, locals := ls, stack := .ref T.heap.size :: .ref T.heap.size :: rest, locked := none }) rfl hsize rfl rfl (rest := rest) rfl
    (by rw [hb]; exact d4) (by rw [hb]; exact d7) hout hRframes (by simp only [List.map_cons, List.sum_cons, hcat]; omega) hlocks
  obtain ⟨f1, f2⟩ := vx_frame hsame
  rw [hhp] at f1 f2
  have hWs : s.WarmedH U.vm := State.WarmedH.trans hW0 hW
  have hcl : s.vm.findClass cls = some ce.cls := by
    have h9 := hO.cls
    rw [hvm] at h9
    exact h9
  have hall : s.sameButNew ({ U with vm := s.vm } : State) locs mc ms := by
    subst hA
    obtain ⟨e1, e2⟩ := hsame
    rw [State.setFrames_setFrames] at e1
    have h2 : (T.setVm s.vm).sameButNew ({ U with vm := s.vm } : State) [] (0 + 1) (0 + 6) := ⟨e1, e2⟩
    have h3 := X.same.trans h2
    rw [List.append_nil] at h3
    exact h3.mono hc hs
  refine ⟨U, ?_, .threw T.heap.size, hrun, hend, Or.inr ⟨T.heap.size, rfl, cls, ce, locs, hx U hWs.alike f1 (fun q hq => f2 q hq (fun z hz => nomatch hz)), hce, hO.vm, hcl, hWs, hall, hf⟩⟩
  refine st1 _ ?_
  show Steps p.tables e below (T1.setTop { method := m, pc := pc + 3, locals := ls, stack := .ref T.heap.size :: rest, locked := none }) _
  jvm_step X₁.here [X₁.here.top, hexec, d3', Value.category]
  exact hsteps
/-- 'throw new E("text")': new; dup; ldc; invokespecial; athrow -/
theorem vx_throwS {cc : ByteArray} {pc : Nat} (hexec : p.tables.exec = Jvm.exec) (hb : c.code = cc) (hl : l.stackTraces = false) {own cls text : String} {names : List String} {ik is ic mc ms sa : Nat} {A : Nat → Prop}
    (hown : s.vm.findClass own = some m.cls) (hcls : Bundle.fit cls = true) (hnames : ∀ n ∈ names, Bundle.fit n = true)
    (hk : (Cond.classLink own ik cls).before args s = true) (hini : (Cond.initialized cls).before args s = true) (hstr : vk_R own is text sa s) (hat : ∀ w ∈ vx_atS own ic cls names, w.before args s = true)
    (hgood : ∀ w ∈ Cond.classLink own ik cls :: Cond.initialized cls :: vx_atS own ic cls names, vx_ot w = true)
    (hU : vx_Zq Bundle.tN "UNASSIGNED_STACK" Bundle.steD A s s.heap) (hN : vx_Zq Bundle.tN "SUPPRESSED_SENTINEL" Bundle.listD A s s.heap) (hS : va_S A s.heap H locs) (hsize : ls.size = c.maxLocals)
    (d0 : decode cc pc = .ok (.new ik, 3)) (d3 : decode cc (pc + 3) = .ok (.dup, 1)) (d4 : decode cc (pc + 4) = .ok (.ldc is, 2)) (d6 : decode cc (pc + 6) = .ok (.invokespecial ic, 3)) (d9 : decode cc (pc + 9) = .ok (.athrow, 1))
    (hout : ∀ x ∈ c.exceptionTable.toList, covers x (pc + 9) = false)
    (hRframes : names.length + 3 < R.frames) (hRlocals : (rest.map fun v => v.category).sum + (13 * (names.length + 1) + 43) ≤ R.locals) (hRcells : cells + 1 ≤ R.cells) (hRslots : slots + 6 ≤ R.slots) (hlocks : meth.locks = false)
    (hx : ∀ t : State, s.vm.Alike t.vm → H.size ≤ t.heap.size → (∀ q : Nat, q < H.size → t.heap[q]? = H[q]?) → XC cls s t)
    (hf : ∀ z ∈ locs, free z.base) (hc : cells + 1 ≤ mc) (hs : slots + 6 ≤ ms) :
    W p l e R s m args below meth c H locs cells slots (vx_MQ below Qc XC args s mc ms free) (F0 m pc ls rest) := by
  intro T hT X
  have htr : e.platform.stackTraces = false := (show e.platform.stackTraces = l.stackTraces by rw [X.admits.platform]).trans hl
  have Y := vx_rebase X (R' := { frames := R.frames, locals := R.locals, cells := 1, slots := 6 }) (Nat.le_refl _) (Nat.le_refl _) hRcells hRslots
  obtain ⟨s', hA⟩ : ∃ z, z = (T.setVm s.vm).setFrames (.invoking m args :: below) := ⟨_, rfl⟩
  rw [← hA] at Y
  have hvm : s'.vm = s.vm := by rw [hA]; rfl
  have hhp : s'.heap = H := by rw [hA]; exact hT
  have hW0 : s.WarmedH s'.vm := by rw [hvm]; exact State.WarmedH.refl s
  have hat' : ∀ w ∈ vx_atS own ic cls names, w.before args s' = true := fun w hw => vx_ot_at hW0 hvm.symm (hgood w (List.mem_cons_of_mem _ (List.mem_cons_of_mem _ hw))) (hat w hw)
  have hk' : (Cond.classLink own ik cls).before args s' = true := vx_ot_at hW0 hvm.symm (hgood _ List.mem_cons_self) hk
  have hini' : (Cond.initialized cls).before args s' = true := vx_ot_at hW0 hvm.symm (hgood _ (List.mem_cons_of_mem _ List.mem_cons_self)) hini
  have hU' : vx_Zq Bundle.tN "UNASSIGNED_STACK" Bundle.steD A s' s'.heap := by rw [hhp]; exact vx_Zq.moved hW0.alike (hU.kept hS.2.1)
  have hN' : vx_Zq Bundle.tN "SUPPRESSED_SENTINEL" Bundle.listD A s' s'.heap := by rw [hhp]; exact vx_Zq.moved hW0.alike (hN.kept hS.2.1)
  have h : ∀ w ∈ Bundle.ownAtoms own ic cls names, w.before args s' = true := vx_own hat' (vx_isRefq hU'.1) (vx_isRefq hN'.1) hU'.2.word hN'.2.word
  have hown' : s'.vm.findClass own = some m.cls := by rw [hvm]; exact hown
  have hins : (Cond.instantiable cls 6).before args s' = true := h _ (by simp [Bundle.ownAtoms])
  obtain ⟨vm₁, cX, kX, hfX, hkX, -, -, X₁, st1⟩ := Y.newCold hexec (own := own) (C := cls) (index := ik) (n := 6) hown' hk' hins hini'
    (g := F0 m pc ls rest) rfl (by rw [hb]; exact d0) (Nat.le_refl _) (Nat.le_refl _)
  generalize hT1 : (T.setVm vm₁).pushCell { cls := cX, slots := kX.instanceTypes.map defaultValue, vm := .none } = T1 at X₁ st1
  have hcat : (Value.ref T.heap.size).category = 1 := rfl
  have hcellA : T1.heap[T.heap.size]? = some (freshCell cX kX) := by rw [← hT1]; exact State.heap_pushCell_size _ _
  have d3' : decode c.code (pc + 3) = .ok (.dup, 1) := by rw [hb]; exact d3
  have d4' : decode c.code (pc + 4) = .ok (.ldc is, 2) := by rw [hb]; exact d4
  have hstr' : vk_R own is text sa s' := vk_R.warm hW0 hstr
  obtain ⟨U, hsteps, hrun, hend, hW, hsame, ce, hce, hO⟩ := X₁.ctorThrowS hexec htr (own := own) (cls := cls) (names := names) (ic := ic) hown' hcls hnames h (fun x hx => nomatch hx) hfX hkX hcellA (by rw [hhp, hT]; exact Nat.le_refl _) (msg := .ref sa) rfl
    (g := { method := m, pc := pc + 6, locals := ls, stack := .ref sa :: .ref T.heap.size :: .ref T.heap.size :: rest, locked := none }) rfl hsize rfl rfl (rest := rest) rfl
    (by rw [hb]; exact d6) (by rw [hb]; exact d9) hout hRframes (by simp only [List.map_cons, List.sum_cons, hcat]; omega) hlocks
  obtain ⟨f1, f2⟩ := vx_frame hsame
  rw [hhp] at f1 f2
  have hWs : s.WarmedH U.vm := State.WarmedH.trans hW0 hW
  have hcl : s.vm.findClass cls = some ce.cls := by
    have h9 := hO.cls
    rw [hvm] at h9
    exact h9
  have hall : s.sameButNew ({ U with vm := s.vm } : State) locs mc ms := by
    subst hA
    obtain ⟨e1, e2⟩ := hsame
    rw [State.setFrames_setFrames] at e1
    have h2 : (T.setVm s.vm).sameButNew ({ U with vm := s.vm } : State) [] (0 + 1) (0 + 6) := ⟨e1, e2⟩
    have h3 := X.same.trans h2
    rw [List.append_nil] at h3
    exact h3.mono hc hs
  refine ⟨U, ?_, .threw T.heap.size, hrun, hend, Or.inr ⟨T.heap.size, rfl, cls, ce, locs, hx U hWs.alike f1 (fun q hq => f2 q hq (fun z hz => nomatch hz)), hce, hO.vm, hcl, hWs, hall, hf⟩⟩
  refine st1 _ ?_
  show Steps p.tables e below (T1.setTop { method := m, pc := pc + 3, locals := ls, stack := .ref T.heap.size :: rest, locked := none }) _
  jvm_step X₁.here [X₁.here.top, hexec, d3', Value.category]
  exact X₁.ldcString hexec (own := own) (text := text) (index := is) (a := sa) hown' hstr'.1 hstr'.2
    (g := { method := m, pc := pc + 4, locals := ls, stack := .ref T.heap.size :: .ref T.heap.size :: rest, locked := none }) rfl d4' _ hsteps
/-- 'throw new E("text")', the text by a wide index -/
theorem vx_throwSW {cc : ByteArray} {pc : Nat} (hexec : p.tables.exec = Jvm.exec) (hb : c.code = cc) (hl : l.stackTraces = false) {own cls text : String} {names : List String} {ik is ic mc ms sa : Nat} {A : Nat → Prop}
    (hown : s.vm.findClass own = some m.cls) (hcls : Bundle.fit cls = true) (hnames : ∀ n ∈ names, Bundle.fit n = true)
    (hk : (Cond.classLink own ik cls).before args s = true) (hini : (Cond.initialized cls).before args s = true) (hstr : vk_R own is text sa s) (hat : ∀ w ∈ vx_atS own ic cls names, w.before args s = true)
    (hgood : ∀ w ∈ Cond.classLink own ik cls :: Cond.initialized cls :: vx_atS own ic cls names, vx_ot w = true)
    (hU : vx_Zq Bundle.tN "UNASSIGNED_STACK" Bundle.steD A s s.heap) (hN : vx_Zq Bundle.tN "SUPPRESSED_SENTINEL" Bundle.listD A s s.heap) (hS : va_S A s.heap H locs) (hsize : ls.size = c.maxLocals)
    (d0 : decode cc pc = .ok (.new ik, 3)) (d3 : decode cc (pc + 3) = .ok (.dup, 1)) (d4 : decode cc (pc + 4) = .ok (.ldc_w is, 3)) (d7 : decode cc (pc + 7) = .ok (.invokespecial ic, 3)) (d10 : decode cc (pc + 10) = .ok (.athrow, 1))
    (hout : ∀ x ∈ c.exceptionTable.toList, covers x (pc + 10) = false)
    (hRframes : names.length + 3 < R.frames) (hRlocals : (rest.map fun v => v.category).sum + (13 * (names.length + 1) + 43) ≤ R.locals) (hRcells : cells + 1 ≤ R.cells) (hRslots : slots + 6 ≤ R.slots) (hlocks : meth.locks = false)
    (hx : ∀ t : State, s.vm.Alike t.vm → H.size ≤ t.heap.size → (∀ q : Nat, q < H.size → t.heap[q]? = H[q]?) → XC cls s t)
    (hf : ∀ z ∈ locs, free z.base) (hc : cells + 1 ≤ mc) (hs : slots + 6 ≤ ms) :
    W p l e R s m args below meth c H locs cells slots (vx_MQ below Qc XC args s mc ms free) (F0 m pc ls rest) := by
  intro T hT X
  have htr : e.platform.stackTraces = false := (show e.platform.stackTraces = l.stackTraces by rw [X.admits.platform]).trans hl
  have Y := vx_rebase X (R' := { frames := R.frames, locals := R.locals, cells := 1, slots := 6 }) (Nat.le_refl _) (Nat.le_refl _) hRcells hRslots
  obtain ⟨s', hA⟩ : ∃ z, z = (T.setVm s.vm).setFrames (.invoking m args :: below) := ⟨_, rfl⟩
  rw [← hA] at Y
  have hvm : s'.vm = s.vm := by rw [hA]; rfl
  have hhp : s'.heap = H := by rw [hA]; exact hT
  have hW0 : s.WarmedH s'.vm := by rw [hvm]; exact State.WarmedH.refl s
  have hat' : ∀ w ∈ vx_atS own ic cls names, w.before args s' = true := fun w hw => vx_ot_at hW0 hvm.symm (hgood w (List.mem_cons_of_mem _ (List.mem_cons_of_mem _ hw))) (hat w hw)
  have hk' : (Cond.classLink own ik cls).before args s' = true := vx_ot_at hW0 hvm.symm (hgood _ List.mem_cons_self) hk
  have hini' : (Cond.initialized cls).before args s' = true := vx_ot_at hW0 hvm.symm (hgood _ (List.mem_cons_of_mem _ List.mem_cons_self)) hini
  have hU' : vx_Zq Bundle.tN "UNASSIGNED_STACK" Bundle.steD A s' s'.heap := by rw [hhp]; exact vx_Zq.moved hW0.alike (hU.kept hS.2.1)
  have hN' : vx_Zq Bundle.tN "SUPPRESSED_SENTINEL" Bundle.listD A s' s'.heap := by rw [hhp]; exact vx_Zq.moved hW0.alike (hN.kept hS.2.1)
  have h : ∀ w ∈ Bundle.ownAtoms own ic cls names, w.before args s' = true := vx_own hat' (vx_isRefq hU'.1) (vx_isRefq hN'.1) hU'.2.word hN'.2.word
  have hown' : s'.vm.findClass own = some m.cls := by rw [hvm]; exact hown
  have hins : (Cond.instantiable cls 6).before args s' = true := h _ (by simp [Bundle.ownAtoms])
  obtain ⟨vm₁, cX, kX, hfX, hkX, -, -, X₁, st1⟩ := Y.newCold hexec (own := own) (C := cls) (index := ik) (n := 6) hown' hk' hins hini'
    (g := F0 m pc ls rest) rfl (by rw [hb]; exact d0) (Nat.le_refl _) (Nat.le_refl _)
  generalize hT1 : (T.setVm vm₁).pushCell { cls := cX, slots := kX.instanceTypes.map defaultValue, vm := .none } = T1 at X₁ st1
  have hcat : (Value.ref T.heap.size).category = 1 := rfl
  have hcellA : T1.heap[T.heap.size]? = some (freshCell cX kX) := by rw [← hT1]; exact State.heap_pushCell_size _ _
  have d3' : decode c.code (pc + 3) = .ok (.dup, 1) := by rw [hb]; exact d3
  have d4' : decode c.code (pc + 4) = .ok (.ldc_w is, 3) := by rw [hb]; exact d4
  have hstr' : vk_R own is text sa s' := vk_R.warm hW0 hstr
  obtain ⟨U, hsteps, hrun, hend, hW, hsame, ce, hce, hO⟩ := X₁.ctorThrowS hexec htr (own := own) (cls := cls) (names := names) (ic := ic) hown' hcls hnames h (fun x hx => nomatch hx) hfX hkX hcellA (by rw [hhp, hT]; exact Nat.le_refl _) (msg := .ref sa) rfl
    (g := { method := m, pc := pc + 7, locals := ls, stack := .ref sa :: .ref T.heap.size :: .ref T.heap.size :: rest, locked := none }) rfl hsize rfl rfl (rest := rest) rfl
    (by rw [hb]; exact d7) (by rw [hb]; exact d10) hout hRframes (by simp only [List.map_cons, List.sum_cons, hcat]; omega) hlocks
  obtain ⟨f1, f2⟩ := vx_frame hsame
  rw [hhp] at f1 f2
  have hWs : s.WarmedH U.vm := State.WarmedH.trans hW0 hW
  have hcl : s.vm.findClass cls = some ce.cls := by
    have h9 := hO.cls
    rw [hvm] at h9
    exact h9
  have hall : s.sameButNew ({ U with vm := s.vm } : State) locs mc ms := by
    subst hA
    obtain ⟨e1, e2⟩ := hsame
    rw [State.setFrames_setFrames] at e1
    have h2 : (T.setVm s.vm).sameButNew ({ U with vm := s.vm } : State) [] (0 + 1) (0 + 6) := ⟨e1, e2⟩
    have h3 := X.same.trans h2
    rw [List.append_nil] at h3
    exact h3.mono hc hs
  refine ⟨U, ?_, .threw T.heap.size, hrun, hend, Or.inr ⟨T.heap.size, rfl, cls, ce, locs, hx U hWs.alike f1 (fun q hq => f2 q hq (fun z hz => nomatch hz)), hce, hO.vm, hcl, hWs, hall, hf⟩⟩
  refine st1 _ ?_
  show Steps p.tables e below (T1.setTop { method := m, pc := pc + 3, locals := ls, stack := .ref T.heap.size :: rest, locked := none }) _
  jvm_step X₁.here [X₁.here.top, hexec, d3', Value.category]
  exact X₁.ldcStringW hexec (own := own) (text := text) (index := is) (a := sa) hown' hstr'.1 hstr'.2
    (g := { method := m, pc := pc + 4, locals := ls, stack := .ref T.heap.size :: .ref T.heap.size :: rest, locked := none }) rfl d4' _ hsteps
end Ends
section Bodies
variable {l : Launch}
theorem vx_ofW {y : MethodName} {ws ws' : List Cond} {rm : Room} {Pc : Array Value → State → Prop} {Qc : Array Value → State → Outcome → State → Prop} {XC : String → State → State → Prop} {mc ms : Nat} {free : Addr → Prop} {cc : ByteArray} {maxL : Nat} {ret : Option FieldType}
    (hy : plainName y.cls = true) (hw : ws = Cond.code y cc maxL ret :: ws')
    (body : ∀ p e s m args below meth c s₁, BodyLoose p l y (headSpec ws rm) cc maxL ret e s m args below meth c s₁ → c.maxLocals = maxL → (∀ x ∈ c.exceptionTable.toList, False) → Pc args s →
      W p l e (headSpec ws rm).room s m args below meth c s.heap [] 0 0 (vx_MQ below Qc XC args s mc ms free) (entryFrame m args maxL)) : vx_Met l y ws rm Pc Qc XC mc ms free := by
  refine MetFree.of_bodyS (code := cc) (maxLocals := maxL) (ret := ret) hy ?_ ?_
  · intro args s m h hn
    obtain ⟨meth, c, h1, h2, h3, h4, h5, h6, -, -⟩ := Cond.code_spec hn (atoms_spec (ws := ws) h _ (by rw [hw]; exact List.mem_cons_self))
    exact ⟨meth, c, h1, h2, h3, h4, h5, h6⟩
  · intro p e s m args below meth c s₁ B hml hP _
    have hh0 : s₁.heap = s.heap := by rw [B.state]; rfl
    have ht : ∀ x ∈ c.exceptionTable.toList, False := by
      obtain ⟨meth9, c9, h1, h2, -, -, -, -, h7, -⟩ := Cond.code_spec B.named (atoms_spec (ws := ws) B.pre _ (by rw [hw]; exact List.mem_cons_self))
      cases Option.some.inj (h1.symm.trans B.method)
      cases Option.some.inj (h2.symm.trans (Stand.of_body B).code)
      intro x hx
      rw [Array.isEmpty_iff.mp h7] at hx
      cases hx
    obtain ⟨t, a1, o, b1, b2, b3⟩ := body p e s m args below meth c s₁ B hml ht hP s₁ hh0 (Stand.of_body B)
    exact ⟨t, o, a1, b1, b2, b3⟩
/-- the table of a body with handlers -/
theorem vx_table {p : Program} {x y : MethodName} {S : Spec} {cc bytes : ByteArray} {maxL maxL' : Nat} {ret ret' : Option FieldType} {e : Env} {s s₁ : State} {m : MethodId} {args : Array Value} {below : List Frame} {meth : Method} {c : Code} {hh : List (Nat × Nat × Nat × Nat)}
    (B : BodyLoose p l y S cc maxL ret e s m args below meth c s₁) (h : (Cond.codeWith y bytes maxL' ret' hh).before args s = true) : c.exceptionTable.toList = tableOf hh := by
  obtain ⟨m9, meth9, c9, hn9, h1, h2, -, -, h6, -⟩ := Cond.codeWith_spec h
  cases Option.some.inj (hn9.symm.trans B.named)
  cases Option.some.inj (h1.symm.trans B.method)
  cases Option.some.inj (h2.symm.trans (Stand.of_body B).code)
  rw [← h6, table_eq]
end Bodies
end VXA
/-! ===== END ===== -/
/-! ===== BEGIN a static call of a method with an exception table ===== -/
section VXS
variable {p : Program} {l : Launch} {e : Env} {R : Room} {s : State} {m : MethodId} {args : Array Value} {below : List Frame} {meth : Method} {c : Code} {T : State} {H : Heap} {locs : List Loc} {cells slots : Nat}
abbrev vx_CSW (R : Room) (s : State) (args : Array Value) (own : String) (index : Nat) (y : MethodName) (bytes : ByteArray) (maxL : Nat) (ret : Option FieldType) (hh : List (Nat × Nat × Nat × Nat)) (ws : List Cond) (rm : Room) (mc ms n : Nat) : Prop :=
  (rm.cells = mc ∧ rm.slots = ms ∧ rm.frames + 1 ≤ R.frames ∧ 8 + (maxL + 11) + rm.locals ≤ R.locals ∧ (∀ w ∈ ws, ∀ (a' : Array Value) (U : State), s.WarmedH U.vm → w.before a' U = true) ∧ Cond.codeWith y bytes maxL ret hh ∈ ws) ∧
  (Cond.codeWith y bytes maxL ret hh).before args s = true ∧ (Cond.initialized y.cls).before args s = true ∧ (y.cls ≠ "java/lang/invoke/MethodHandle" ∧ y.cls ≠ "java/lang/invoke/VarHandle") ∧
  (∀ sig, parseMethodDescriptor y.desc = some sig → n = sig.parameters.length) ∧ (Cond.methodLink own index y).before args s = true ∧ (Cond.static y).before args s = true
theorem vx_cwSW {own : String} {index maxL mc ms : Nat} {y : MethodName} {bytes : ByteArray} {ret : Option FieldType} {hh : List (Nat × Nat × Nat × Nat)} {Ts ws ws' : List Cond} {rm : Room} (n : Nat) (ht : ∀ w ∈ Ts, w.before args s = true) (hT : GoodIn Ts (va_wsS own index y ws)) (hw : ws = Cond.codeWith y bytes maxL ret hh :: ws') (hrc : rm.cells = mc) (hrs : rm.slots = ms)
    (hd : y.cls ≠ "java/lang/invoke/MethodHandle" ∧ y.cls ≠ "java/lang/invoke/VarHandle" ∧ (parseMethodDescriptor y.desc).map (fun d => d.parameters.length) = some n) (hR : rm.frames + 1 ≤ R.frames ∧ 8 + (maxL + 11) + rm.locals ≤ R.locals) :
    vx_CSW R s args own index y bytes maxL ret hh ws rm mc ms n := by
  have ok : ∀ w ∈ va_wsS own index y ws, w.before args s = true := fun w h => ht w (hT w h).1
  have hG : GoodIn Ts ws := fun w h => hT w (by unfold va_wsS; exact List.mem_append_right _ h)
  have hc : Cond.codeWith y bytes maxL ret hh ∈ ws := by rw [hw]; exact List.mem_cons_self
  refine ⟨⟨hrc, hrs, hR.1, hR.2, pay_in ht hG, hc⟩, ht _ (hG _ hc).1, ok _ (by simp [va_wsS]), ⟨hd.1, hd.2.1⟩, fun sig h => ?_, ok _ (by simp [va_wsS]), ok _ (by simp [va_wsS])⟩
  have h2 := hd.2.2
  rw [h] at h2
  exact (Option.some.inj h2).symm
theorem vx_callSW (X : Stand p l e R s m args below meth c T locs cells slots) (hexec : p.tables.exec = Jvm.exec) {own : String} {index : Nat} {y : MethodName} {bytes : ByteArray} {maxL : Nat} {ret : Option FieldType} {hh : List (Nat × Nat × Nat × Nat)}
    (hown : s.vm.findClass own = some m.cls) (hlink : (Cond.methodLink own index y).before args s = true) (hstat : (Cond.static y).before args s = true) (hinit : (Cond.initialized y.cls).before args s = true)
    (hcode : (Cond.codeWith y bytes maxL ret hh).before args s = true) (hy : y.cls ≠ "java/lang/invoke/MethodHandle" ∧ y.cls ≠ "java/lang/invoke/VarHandle")
    {W9 : Nat} {Pre : Pt → Array Value → Prop} {Post : Pt → Array Value → Option Value → Pt → Prop} (hK : Back l R p e below s args y 3 W9 Pre Post)
    {g : JFrame} (hg : g.method = m) (hsize : g.locals.size = c.maxLocals) {argsL rest : List Value} (hlen : ∀ sig, parseMethodDescriptor y.desc = some sig → argsL.length = sig.parameters.length)
    (hstack : g.stack = argsL.reverse ++ rest) (hW : 2 * g.monitorRoom + (rest.map fun v => v.category).sum ≤ W9) (hdg : decode c.code g.pc = .ok (.invokestatic index, 3))
    (hpre : ∀ vm₁, s.WarmedH vm₁ → Pre ⟨T.setVm vm₁, locs, cells, slots⟩ argsL.toArray) :
    ∃ (v : Option Value) (vm₁ : Vm) (B : Pt), s.WarmedH vm₁ ∧ Stand p l e R s m args below meth c B.U B.locs B.cells B.slots ∧ Post ⟨T.setVm vm₁, locs, cells, slots⟩ argsL.toArray v B ∧
      ∀ target, Steps p.tables e below (B.U.setTop { g with pc := g.pc + 3, stack := v.toList ++ rest }) target → Steps p.tables e below (T.setTop g) target := by
  obtain ⟨mk, methM, cM, hnamed, hmethM, -, -, -, -, -, -, hsigM⟩ := Cond.codeWith_spec hcode
  have hstatic : methM.isStatic = true := Cond.static_spec hnamed hmethM hstat
  obtain ⟨kP, hkP, -⟩ := className_of_methodNamed hnamed
  have hinitP : kP.init = .initialized := Cond.initialized_spec (findClass_of_methodNamed hnamed) hkP hinit
  obtain ⟨vm₁, X₁, hstep₁⟩ := X.invokestatic hexec hown hlink hnamed hmethM hstatic hkP hinitP hy (g := g) hg (argsL := argsL) (rest := rest) (hlen _ hsigM) hstack hdg
  obtain ⟨v, B, X', hpost, hsteps⟩ := hK m meth c ⟨T.setVm vm₁, locs, cells, slots⟩ { g with stack := rest } (.invokestatic index) mk argsL.toArray X₁ hg hsize hdg hW (X₁.named hnamed) (hpre vm₁ X₁.warmed)
  exact ⟨v, vm₁, B, X₁.warmed, X', hpost, fun target h => hstep₁ _ fun acts => by rw [doInvoke_state]; exact hsteps.trans h⟩
theorem vx_runSW {y : MethodName} {bytes cc : ByteArray} {maxL nL mc ms n index : Nat} {ret : Option FieldType} {hh : List (Nat × Nat × Nat × Nat)} {ws : List Cond} {rm : Room} {Pc : Array Value → State → Prop} {Qc : Array Value → State → Outcome → State → Prop} {free : Addr → Prop} {Ts : List Cond} {own : String} {As rest : List Value} {g : JFrame}
    (S : CallFix p m c cc nL s args Ts own) (hM : Met l y ws rm Pc Qc mc ms free) (cw : vx_CSW R s args own index y bytes maxL ret hh ws rm mc ms n) (hp : PreS s H Pc As)
    (hg : g.method = m) (hn : As.length = n) (hsize : g.locals.size = nL) (hstack : g.stack = As.reverse ++ rest) (hW : 2 * g.monitorRoom + (rest.map fun v => v.category).sum ≤ 8) (hdg : decode cc g.pc = .ok (.invokestatic index, 3)) (hf : cells + mc ≤ R.cells ∧ slots + ms ≤ R.slots) :
    va_Run p l e R s m args below meth c H locs cells slots mc ms g rest (Qc As.toArray) (free) := by
  obtain ⟨⟨hrc, hrs, hfr, hlo, hws, hcw⟩, hcode, hini, hy, hlen, hl, hstt⟩ := cw
  have hK : Back l R p e below s args y 3 8 (PreOf R mc ms Pc) (PostOf Qc mc ms free) := va_backW (hh := hh) (bytes := bytes) (maxL := maxL) (ret := ret) hM hp.1 hrc hrs hfr hlo hws hcw (fun a' U hW => word_at hW (Or.inl (by first | rfl | simp [Cond.onTables, Cond.keeps, Cond.steady])) hini)
  obtain ⟨hx, hb, hml, ho, -⟩ := S
  intro T hT X
  obtain ⟨v, vm₁, ⟨U', l2, c2, s2⟩, hW₁, X', ⟨g', mk, t, L, e1, e2, hq, h1, hL, h2, h3⟩, st⟩ := vx_callSW X hx (hh := hh) (bytes := bytes) (maxL := maxL) (ret := ret) ho hl hstt hini hcode hy hK hg (hsize.trans hml.symm) (argsL := As) (rest := rest) (fun sig h => hn.trans (hlen sig h)) hstack hW (by rw [hb]; exact hdg)
    (fun vm₁ hW₁ => ⟨hf.1, hf.2, hp.2 (T.setVm vm₁) hT hW₁⟩)
  dsimp only [Pt.U, Pt.locs, Pt.cells, Pt.slots] at X' e1 e2 h1 h2 h3 st
  subst h1; subst h2; subst h3
  exact ⟨v, (T.setVm vm₁).calling g' mk As.toArray, t, U', L, hT, X', hL, e1, e2, hq, st⟩
/-- not caught here, past rows that name other classes: it goes on to the caller -/
theorem vx_outP {p : Program} {l : Launch} {e : Env} {R : Room} {s : State} {m : MethodId} {args : Array Value} {below : List Frame} {meth : Method} {c : Code} {H : Heap} {locs : List Loc} {cells slots : Nat} {free : Addr → Prop} {ls : Array Slot} {rest : List Value} {Qc : Array Value → State → Outcome → State → Prop} {XC : String → State → State → Prop}
    {pc : Nat} {own E : String} {ce : Cell} {q : Addr} {mc ms : Nat} (hown : s.vm.findClass own = some m.cls) (hlocks : meth.locks = false)
    (hpass : ∀ z ∈ c.exceptionTable.toList, covers z pc = false ∨ (z.catchType ≠ 0 ∧ ∃ nm : String, (Cond.classLink own z.catchType nm).before args s = true ∧ va_Nc E nm s)) (hcell : H[q]? = some ce) (hv : ce.vm = .none) (hcl : s.vm.findClass E = some ce.cls)
    (hx : ∀ t : State, t.heap = H → s.vm.Alike t.vm → XC E s t) (hf : ∀ z ∈ locs, free z.base) (hc : cells ≤ mc) (hs : slots ≤ ms) :
    vx_W p l e R s m args below meth c H locs cells slots (vx_MQ below Qc XC args s mc ms free) (F0 m pc ls rest) q := by
  intro T hT X
  have hpl : e.platform.magicAccessors = ({} : Platform).magicAccessors := by rw [X.admits.platform]
  obtain ⟨vm', hW', X', st⟩ := X.outThrough hlocks q (g := F0 m pc ls rest) rfl rfl rfl (cell := ce) (by rw [hT]; exact hcell) (by rw [hv]; rfl)
    (by obtain ⟨k9, h9, -⟩ := Vm.findClass_spec hcl; exact ⟨k9, h9⟩) (fun z hz => by
      rcases hpass z hz with h | ⟨hz0, nm, hl1, hn1⟩
      · exact Or.inl h
      · obtain ⟨c6, hc6, hcl6⟩ := Cond.classLink_spec hown hl1 e.platform hpl
        obtain ⟨a8, b8, h1, h2, h3⟩ := hn1
        cases Option.some.inj (h1.symm.trans hcl)
        cases Option.some.inj (h2.symm.trans hc6)
        exact Or.inr ⟨hz0, _, hcl6, h3⟩)
  obtain ⟨g₀, hfr⟩ := X'.frames_eq
  have hcell9 : ((T.setVm vm').setFrames (.throwing q :: below)).heap[q]? = some ce := by
    show T.heap[q]? = some ce
    rw [hT]; exact hcell
  have hend : Ended ((T.setVm vm').setFrames (.throwing q :: below)) below (.threw q) := State.frames_setFrames _ (State.cur_lt_of_frames hfr)
  refine ⟨(T.setVm vm').setFrames (.throwing q :: below), ?_, .threw q, X'.here.running, hend, Or.inr ⟨q, rfl, E, ce, locs, hx _ hT (X'.ends _).1.alike, hcell9, hv, hcl, (X'.ends _).1, (X'.ends _).2.mono hc hs, hf⟩⟩
  rw [X.pushThrowing_eq]
  exact st
/-- a thing of a world lies in the heap -/
theorem vx_lt {D : va_G} {cl : List vw_C} {ws : va_W} {H1 : Heap} (h : va_P D cl ws H1) {k : Nat} {q : Nat × va_E} (hk : ws[k]? = some q) : q.1 < H1.size := (h k q hk).lt
end VXS
/-! ===== END ===== -/
/-! ===== BEGIN methods with a table of their own: called by a name, returning or throwing ===== -/
section VXH
/-! vx_backW, vx_callVX, vx_callSX, vx_callVW, vx_runVW, vx_runVX, vx_runSX, vx_ofWH follow the same proofs as their sisters above (Free/Laws.lean, Shelf42/LK1.lean); vx_outP calls Shelf42/NT130.lean (outThrough). -/
section
variable {l : Launch} {R : Room} {p : Program} {e : Env} {below : List Frame} {s : State} {sargs : Array Value} {y : MethodName} {len W9 : Nat}
theorem vx_backW {ws : List Cond} {rm : Room} {Pc : Array Value → State → Prop} {Qc : Array Value → State → Outcome → State → Prop} {XC : String → State → State → Prop} {mc ms : Nat} {free : Addr → Prop} {bytes : ByteArray} {maxL : Nat} {ret : Option FieldType} {hh : List (Nat × Nat × Nat × Nat)}
    (hM : vx_Met l y ws rm Pc Qc XC mc ms free) (hblind : FrameBlind Pc) (hrc : rm.cells = mc) (hrs : rm.slots = ms)
    (hframes : rm.frames + 1 ≤ R.frames) (hlocals : W9 + (maxL + 11) + rm.locals ≤ R.locals)
    (hws : ∀ w ∈ ws, ∀ a' U, s.WarmedH U.vm → w.before a' U = true) (hcode : Cond.codeWith y bytes maxL ret hh ∈ ws) (hinit : ∀ a' U, s.WarmedH U.vm → (Cond.initialized y.cls).before a' U = true) :
    vx_Back l R p e below s sargs y len W9 (PreOf R mc ms Pc) (PostOf Qc mc ms free) (vx_Post XC mc ms free) := by
  intro m meth c A g ig mk a X hg hsize hdg hW hn hp
  have h1 : (headSpec ws rm).pre.before a A.U = true := atoms_intro fun w hw => hws w hw _ _ X.warmed
  have h2 : (Cond.codeWith y bytes maxL ret hh).before a A.U = true := hws _ hcode _ _ X.warmed
  have h3 : (Cond.initialized y.cls).before a A.U = true := hinit _ _ X.warmed
  have h4 : A.cells + (headSpec ws rm).room.cells ≤ R.cells := by rw [show (headSpec ws rm).room.cells = mc from hrc]; exact hp.1
  have h5 : A.slots + (headSpec ws rm).room.slots ≤ R.slots := by rw [show (headSpec ws rm).room.slots = ms from hrs]; exact hp.2.1
  have hPc : Pc a (A.U.calling g mk a) := hblind _ _ _ _ hp.2.2
  obtain ⟨U, Ls, c0, s0⟩ := A
  dsimp only [Pt.U, Pt.locs, Pt.cells, Pt.slots] at h1 h2 h3 h4 h5 X hn hPc ⊢
  obtain ⟨m9, methY, cY, hn9, hmY, hcY, -, hlY, -⟩ := Cond.codeWith_spec h2
  cases Option.some.inj (hn9.symm.trans hn)
  obtain ⟨kY, hkY, -⟩ := className_of_methodNamed hn
  have hinitY : kY.init = .initialized := Cond.initialized_spec (findClass_of_methodNamed hn) hkY h3
  have h : At U g.method c below := by rw [hg]; exact X.here
  have hlocals9 : W9 + (maxL + 11) + (headSpec ws rm).room.locals ≤ R.locals := hlocals
  have happ : (headSpec ws rm).appliesLoose y e.platform (U.calling g mk a) = true :=
    Spec.appliesLoose_calling (g := g) h hdg hn hkY hinitY
      (X.room_calling (g := g) (R' := (headSpec ws rm).room) hsize hmY hcY hframes (by rw [hlY]; omega) h4 h5) h1
  obtain ⟨mid, hmid⟩ := h.above
  have hfr : (U.setTop g).frames = (.java g :: mid) ++ below := by rw [State.frames_setTop' g h.top, hmid]; rfl
  obtain ⟨o, s₂, hsteps, -, hend, hq⟩ := Steps.callFree hM p X.admits X.cas X.clock (acts := []) hfr happ hPc trivial
  have hq' : vx_Q Qc XC mc ms free a (U.calling g mk a) o s₂ := hq
  rw [State.frames_setTop' g h.top] at hend
  obtain ⟨g₀, hg0⟩ := Option.isSome_iff_exists.mp h.top
  obtain ⟨r, hr⟩ := State.topJava?_eq_some.mp hg0
  have hr' : (({ U with heap := s₂.heap, slotsUsed := s₂.slotsUsed } : State).setVm s₂.vm).frames = .java g₀ :: r := hr
  rcases hq' with ⟨hqc, L, hfe, hL⟩ | ⟨q, rfl, E, ce, L, hx, hce, hcv, hcl, hW₂, hsm, hL⟩
  · obtain ⟨⟨v, rfl⟩, hW₂, e2, q2, q3, q4, q5, q6⟩ := id hfe
    have e3 : s₂ = ({ (U.calling g mk a).setFrames s₂.frames with heap := s₂.heap, slotsUsed := s₂.slotsUsed } : State).setVm s₂.vm := by
      have : s₂ = ({ s₂ with vm := (U.calling g mk a).vm } : State).setVm s₂.vm := rfl
      rw [e2] at this
      exact this
    obtain ⟨c₂, i₂, len₂, hc₂, hd₂, hf₂⟩ := hend
    have hW' : U.WarmedH s₂.vm := hW₂
    have hcc : c₂ = c := by
      have h1 : s₂.code? g.method = U.code? g.method := by
        rw [State.code?_eq, State.code?_eq, hW'.alike.method?]
      exact Option.some.inj (hc₂.symm.trans (h1.trans h.code))
    subst hcc
    have hlen : len₂ = len := by rw [hdg] at hd₂; cases hd₂; rfl
    subst hlen
    have hs₂ : s₂ = (({ U with heap := s₂.heap, slotsUsed := s₂.slotsUsed } : State).setVm s₂.vm).setTop { g with pc := g.pc + len₂, stack := v.toList ++ g.stack } := by
      refine e3.trans ?_
      rw [hf₂, State.calling_eq h.top, State.setFrames_setFrames, State.setTop_of_frames _ hr', hr]
      rfl
    have hsame : U.sameButNew ({ U with heap := s₂.heap, slotsUsed := s₂.slotsUsed } : State) L mc ms := by
      refine ⟨?_, q2, q3, q4, q5, q6⟩
      obtain ⟨t, ht, -⟩ := State.frames_cons hr
      show ({ U with heap := s₂.heap, slotsUsed := s₂.slotsUsed } : State) = { U.setFrames U.frames with heap := s₂.heap, slotsUsed := s₂.slotsUsed }
      rw [State.setFrames_self ht]
    subst hg
    refine Or.inl ⟨v, ⟨(({ U with heap := s₂.heap, slotsUsed := s₂.slotsUsed } : State).setVm s₂.vm), Ls ++ L, c0 + mc, s0 + ms⟩,
      ⟨X.admits, X.cas, X.clock, X.frames, X.room, X.hears, X.method, X.code, (X.here.setHeapUsed s₂.heap s₂.slotsUsed).setVm hW'.alike, X.tail, State.WarmedH.trans X.warmed hW', X.limits, X.bytes, X.same.trans (hsame.setVm s.vm)⟩,
      ⟨g, mk, s₂, L, rfl, rfl, hqc, rfl, hL, rfl, rfl⟩, ?_⟩
    show Steps p.tables e below _ ((({ U with heap := s₂.heap, slotsUsed := s₂.slotsUsed } : State).setVm s₂.vm).setTop { g with pc := g.pc + len₂, stack := v.toList ++ g.stack })
    rw [← hs₂]
    exact hsteps
  · obtain ⟨e2, q2, q3, q4, q5, q6⟩ := id hsm
    have e3 : s₂ = ({ (U.calling g mk a).setFrames s₂.frames with heap := s₂.heap, slotsUsed := s₂.slotsUsed } : State).setVm s₂.vm := by
      have : s₂ = ({ s₂ with vm := (U.calling g mk a).vm } : State).setVm s₂.vm := rfl
      rw [e2] at this
      exact this
    have hf₂ : s₂.frames = .throwing q :: .java g :: U.frames.tail := hend
    have hW' : U.WarmedH s₂.vm := hW₂
    have hs₂ : s₂ = ((({ U with heap := s₂.heap, slotsUsed := s₂.slotsUsed } : State).setVm s₂.vm).setTop g).pushFrame (.throwing q) := by
      refine e3.trans ?_
      rw [hf₂, State.calling_eq h.top, State.setFrames_setFrames, State.pushFrame, State.frames_setTop _ hr', State.setTop_of_frames _ hr', State.setFrames_setFrames, hr]
      rfl
    have hsame : U.sameButNew ({ U with heap := s₂.heap, slotsUsed := s₂.slotsUsed } : State) L mc ms := by
      refine ⟨?_, q2, q3, q4, q5, q6⟩
      obtain ⟨t, ht, -⟩ := State.frames_cons hr
      show ({ U with heap := s₂.heap, slotsUsed := s₂.slotsUsed } : State) = { U.setFrames U.frames with heap := s₂.heap, slotsUsed := s₂.slotsUsed }
      rw [State.setFrames_self ht]
    subst hg
    refine Or.inr ⟨q, ⟨(({ U with heap := s₂.heap, slotsUsed := s₂.slotsUsed } : State).setVm s₂.vm), Ls ++ L, c0 + mc, s0 + ms⟩,
      ⟨X.admits, X.cas, X.clock, X.frames, X.room, X.hears, X.method, X.code, (X.here.setHeapUsed s₂.heap s₂.slotsUsed).setVm hW'.alike, X.tail, State.WarmedH.trans X.warmed hW', X.limits, X.bytes, X.same.trans (hsame.setVm s.vm)⟩,
      ⟨g, mk, s₂, L, E, ce, rfl, rfl, hx, hce, hcv, hcl, rfl, hL, rfl, rfl⟩, ?_⟩
    show Steps p.tables e below _ (((({ U with heap := s₂.heap, slotsUsed := s₂.slotsUsed } : State).setVm s₂.vm).setTop g).pushFrame (.throwing q))
    rw [← hs₂]
    exact hsteps
end
variable {p : Program} {l : Launch} {e : Env} {R : Room} {s : State} {m : MethodId} {args : Array Value} {below : List Frame} {meth : Method} {c : Code} {T : State} {H : Heap} {locs : List Loc} {cells slots : Nat}
theorem vx_callVX (X : Stand p l e R s m args below meth c T locs cells slots) (hexec : p.tables.exec = Jvm.exec) {own C : String} {index : Nat} {y : MethodName} {bytes : ByteArray} {maxL : Nat} {ret : Option FieldType} {hh : List (Nat × Nat × Nat × Nat)}
    (hown : s.vm.findClass own = some m.cls) (hlink : (Cond.methodLink own index y).before args s = true) (hinst : (Cond.instanceMethod y).before args s = true) (hsel : (Cond.selects C y y).before args s = true)
    (hcode : (Cond.codeWith y bytes maxL ret hh).before args s = true) (hy : y.cls ≠ "java/lang/invoke/MethodHandle" ∧ y.cls ≠ "java/lang/invoke/VarHandle")
    {W9 : Nat} {Pre : Pt → Array Value → Prop} {Post : Pt → Array Value → Option Value → Pt → Prop} {PostX : Pt → Array Value → Addr → Pt → Prop} (hK : vx_Back l R p e below s args y 3 W9 Pre Post PostX)
    {b : Addr} {cellB : Cell} (hcell : T.heap[b]? = some cellB) (hobj : cellB.vm.isStatics = false) (hcls : s.vm.findClass C = some cellB.cls)
    {g : JFrame} (hg : g.method = m) (hsize : g.locals.size = c.maxLocals) {argsL rest : List Value} (hlen : ∀ sig, parseMethodDescriptor y.desc = some sig → argsL.length = sig.parameters.length)
    (hstack : g.stack = argsL.reverse ++ .ref b :: rest) (hW : 2 * g.monitorRoom + (rest.map fun v => v.category).sum ≤ W9) (hdg : decode c.code g.pc = .ok (.invokevirtual index, 3))
    (hpre : ∀ vm₁, s.WarmedH vm₁ → Pre ⟨T.setVm vm₁, locs, cells, slots⟩ (Value.ref b :: argsL).toArray) :
    (∃ (v : Option Value) (vm₁ : Vm) (B : Pt), s.WarmedH vm₁ ∧ Stand p l e R s m args below meth c B.U B.locs B.cells B.slots ∧ Post ⟨T.setVm vm₁, locs, cells, slots⟩ (Value.ref b :: argsL).toArray v B ∧
      ∀ target, Steps p.tables e below (B.U.setTop { g with pc := g.pc + 3, stack := v.toList ++ rest }) target → Steps p.tables e below (T.setTop g) target) ∨
    (∃ (q : Addr) (vm₁ : Vm) (B : Pt), s.WarmedH vm₁ ∧ Stand p l e R s m args below meth c B.U B.locs B.cells B.slots ∧ PostX ⟨T.setVm vm₁, locs, cells, slots⟩ (Value.ref b :: argsL).toArray q B ∧
      Steps p.tables e below (T.setTop g) ((B.U.setTop { g with stack := rest }).pushFrame (.throwing q))) := by
  obtain ⟨mk, methM, hnamed, hmethM, hstM, habM⟩ := Cond.instanceMethod_spec hinst
  obtain ⟨m8, methM', cM, hn8, hmethM', -, -, -, -, -, -, hsigM⟩ := Cond.codeWith_spec hcode
  cases Option.some.inj (hn8.symm.trans hnamed)
  cases hmethM.symm.trans hmethM'
  obtain ⟨c2, r2, m2, q1, q2, q3, q4, kP, hkP, hkPi⟩ := Cond.selects_spec hsel
  cases hcls.symm.trans q1
  cases (State.methodFound?_of_named hnamed hy).symm.trans q2
  cases hnamed.symm.trans q3
  have hselP : selectMethod e.platform s.vm cellB.cls mk = .method mk := by rw [Launch.admits_selectMethod X.admits]; exact q4
  obtain ⟨vm₁, X₁, hstep₁⟩ := X.invokevirtual hexec hown hlink hnamed hmethM hstM hkP hkPi hy (a := b) (cell := cellB) hcell
    (fun z h => by rw [h] at hobj; cases hobj) hselP hmethM habM hkP hkPi (g := g) hg (argsL := argsL) (rest := rest) (hlen _ hsigM) hstack hdg
  rcases hK m meth c ⟨T.setVm vm₁, locs, cells, slots⟩ { g with stack := rest } (.invokevirtual index) mk (Value.ref b :: argsL).toArray X₁ hg hsize hdg hW (X₁.named hnamed) (hpre vm₁ X₁.warmed) with ⟨v, B, X', hpost, hsteps⟩ | ⟨q, B, X', hpost, hsteps⟩
  · exact Or.inl ⟨v, vm₁, B, X₁.warmed, X', hpost, fun target h => hstep₁ _ fun acts => by rw [doInvoke_state]; exact hsteps.trans h⟩
  · exact Or.inr ⟨q, vm₁, B, X₁.warmed, X', hpost, hstep₁ _ fun acts => by rw [doInvoke_state]; exact hsteps⟩
theorem vx_callSX (X : Stand p l e R s m args below meth c T locs cells slots) (hexec : p.tables.exec = Jvm.exec) {own : String} {index : Nat} {y : MethodName} {bytes : ByteArray} {maxL : Nat} {ret : Option FieldType} {hh : List (Nat × Nat × Nat × Nat)}
    (hown : s.vm.findClass own = some m.cls) (hlink : (Cond.methodLink own index y).before args s = true) (hstat : (Cond.static y).before args s = true) (hinit : (Cond.initialized y.cls).before args s = true)
    (hcode : (Cond.codeWith y bytes maxL ret hh).before args s = true) (hy : y.cls ≠ "java/lang/invoke/MethodHandle" ∧ y.cls ≠ "java/lang/invoke/VarHandle")
    {W9 : Nat} {Pre : Pt → Array Value → Prop} {Post : Pt → Array Value → Option Value → Pt → Prop} {PostX : Pt → Array Value → Addr → Pt → Prop} (hK : vx_Back l R p e below s args y 3 W9 Pre Post PostX)
    {g : JFrame} (hg : g.method = m) (hsize : g.locals.size = c.maxLocals) {argsL rest : List Value} (hlen : ∀ sig, parseMethodDescriptor y.desc = some sig → argsL.length = sig.parameters.length)
    (hstack : g.stack = argsL.reverse ++ rest) (hW : 2 * g.monitorRoom + (rest.map fun v => v.category).sum ≤ W9) (hdg : decode c.code g.pc = .ok (.invokestatic index, 3))
    (hpre : ∀ vm₁, s.WarmedH vm₁ → Pre ⟨T.setVm vm₁, locs, cells, slots⟩ argsL.toArray) :
    (∃ (v : Option Value) (vm₁ : Vm) (B : Pt), s.WarmedH vm₁ ∧ Stand p l e R s m args below meth c B.U B.locs B.cells B.slots ∧ Post ⟨T.setVm vm₁, locs, cells, slots⟩ argsL.toArray v B ∧
      ∀ target, Steps p.tables e below (B.U.setTop { g with pc := g.pc + 3, stack := v.toList ++ rest }) target → Steps p.tables e below (T.setTop g) target) ∨
    (∃ (q : Addr) (vm₁ : Vm) (B : Pt), s.WarmedH vm₁ ∧ Stand p l e R s m args below meth c B.U B.locs B.cells B.slots ∧ PostX ⟨T.setVm vm₁, locs, cells, slots⟩ argsL.toArray q B ∧
      Steps p.tables e below (T.setTop g) ((B.U.setTop { g with stack := rest }).pushFrame (.throwing q))) := by
  obtain ⟨mk, methM, cM, hnamed, hmethM, -, -, -, -, -, -, hsigM⟩ := Cond.codeWith_spec hcode
  have hstatic : methM.isStatic = true := Cond.static_spec hnamed hmethM hstat
  obtain ⟨kP, hkP, -⟩ := className_of_methodNamed hnamed
  have hinitP : kP.init = .initialized := Cond.initialized_spec (findClass_of_methodNamed hnamed) hkP hinit
  obtain ⟨vm₁, X₁, hstep₁⟩ := X.invokestatic hexec hown hlink hnamed hmethM hstatic hkP hinitP hy (g := g) hg (argsL := argsL) (rest := rest) (hlen _ hsigM) hstack hdg
  rcases hK m meth c ⟨T.setVm vm₁, locs, cells, slots⟩ { g with stack := rest } (.invokestatic index) mk argsL.toArray X₁ hg hsize hdg hW (X₁.named hnamed) (hpre vm₁ X₁.warmed) with ⟨v, B, X', hpost, hsteps⟩ | ⟨q, B, X', hpost, hsteps⟩
  · exact Or.inl ⟨v, vm₁, B, X₁.warmed, X', hpost, fun target h => hstep₁ _ fun acts => by rw [doInvoke_state]; exact hsteps.trans h⟩
  · exact Or.inr ⟨q, vm₁, B, X₁.warmed, X', hpost, hstep₁ _ fun acts => by rw [doInvoke_state]; exact hsteps⟩
theorem vx_callVW (X : Stand p l e R s m args below meth c T locs cells slots) (hexec : p.tables.exec = Jvm.exec) {own C : String} {index : Nat} {y : MethodName} {bytes : ByteArray} {maxL : Nat} {ret : Option FieldType} {hh : List (Nat × Nat × Nat × Nat)}
    (hown : s.vm.findClass own = some m.cls) (hlink : (Cond.methodLink own index y).before args s = true) (hinst : (Cond.instanceMethod y).before args s = true) (hsel : (Cond.selects C y y).before args s = true)
    (hcode : (Cond.codeWith y bytes maxL ret hh).before args s = true) (hy : y.cls ≠ "java/lang/invoke/MethodHandle" ∧ y.cls ≠ "java/lang/invoke/VarHandle")
    {W9 : Nat} {Pre : Pt → Array Value → Prop} {Post : Pt → Array Value → Option Value → Pt → Prop} (hK : Back l R p e below s args y 3 W9 Pre Post)
    {b : Addr} {cellB : Cell} (hcell : T.heap[b]? = some cellB) (hobj : cellB.vm.isStatics = false) (hcls : s.vm.findClass C = some cellB.cls)
    {g : JFrame} (hg : g.method = m) (hsize : g.locals.size = c.maxLocals) {argsL rest : List Value} (hlen : ∀ sig, parseMethodDescriptor y.desc = some sig → argsL.length = sig.parameters.length)
    (hstack : g.stack = argsL.reverse ++ .ref b :: rest) (hW : 2 * g.monitorRoom + (rest.map fun v => v.category).sum ≤ W9) (hdg : decode c.code g.pc = .ok (.invokevirtual index, 3))
    (hpre : ∀ vm₁, s.WarmedH vm₁ → Pre ⟨T.setVm vm₁, locs, cells, slots⟩ (Value.ref b :: argsL).toArray) :
    ∃ (v : Option Value) (vm₁ : Vm) (B : Pt), s.WarmedH vm₁ ∧ Stand p l e R s m args below meth c B.U B.locs B.cells B.slots ∧ Post ⟨T.setVm vm₁, locs, cells, slots⟩ (Value.ref b :: argsL).toArray v B ∧
      ∀ target, Steps p.tables e below (B.U.setTop { g with pc := g.pc + 3, stack := v.toList ++ rest }) target → Steps p.tables e below (T.setTop g) target := by
  obtain ⟨mk, methM, hnamed, hmethM, hstM, habM⟩ := Cond.instanceMethod_spec hinst
  obtain ⟨m8, methM', cM, hn8, hmethM', -, -, -, -, -, -, hsigM⟩ := Cond.codeWith_spec hcode
  cases Option.some.inj (hn8.symm.trans hnamed)
  cases hmethM.symm.trans hmethM'
  obtain ⟨c2, r2, m2, q1, q2, q3, q4, kP, hkP, hkPi⟩ := Cond.selects_spec hsel
  cases hcls.symm.trans q1
  cases (State.methodFound?_of_named hnamed hy).symm.trans q2
  cases hnamed.symm.trans q3
  have hselP : selectMethod e.platform s.vm cellB.cls mk = .method mk := by rw [Launch.admits_selectMethod X.admits]; exact q4
  obtain ⟨vm₁, X₁, hstep₁⟩ := X.invokevirtual hexec hown hlink hnamed hmethM hstM hkP hkPi hy (a := b) (cell := cellB) hcell
    (fun z h => by rw [h] at hobj; cases hobj) hselP hmethM habM hkP hkPi (g := g) hg (argsL := argsL) (rest := rest) (hlen _ hsigM) hstack hdg
  obtain ⟨v, B, X', hpost, hsteps⟩ := hK m meth c ⟨T.setVm vm₁, locs, cells, slots⟩ { g with stack := rest } (.invokevirtual index) mk (Value.ref b :: argsL).toArray X₁ hg hsize hdg hW (X₁.named hnamed) (hpre vm₁ X₁.warmed)
  exact ⟨v, vm₁, B, X₁.warmed, X', hpost, fun target h => hstep₁ _ fun acts => by rw [doInvoke_state]; exact hsteps.trans h⟩
abbrev vx_CVW (R : Room) (s : State) (args : Array Value) (own C : String) (index : Nat) (y : MethodName) (bytes : ByteArray) (maxL : Nat) (ret : Option FieldType) (hh : List (Nat × Nat × Nat × Nat)) (ws : List Cond) (rm : Room) (mc ms n : Nat) : Prop :=
  (rm.cells = mc ∧ rm.slots = ms ∧ rm.frames + 1 ≤ R.frames ∧ 8 + (maxL + 11) + rm.locals ≤ R.locals ∧ (∀ w ∈ ws, ∀ (a' : Array Value) (U : State), s.WarmedH U.vm → w.before a' U = true) ∧ Cond.codeWith y bytes maxL ret hh ∈ ws) ∧
  (Cond.codeWith y bytes maxL ret hh).before args s = true ∧ (Cond.initialized y.cls).before args s = true ∧ (y.cls ≠ "java/lang/invoke/MethodHandle" ∧ y.cls ≠ "java/lang/invoke/VarHandle") ∧
  (∀ sig, parseMethodDescriptor y.desc = some sig → n = sig.parameters.length) ∧ (Cond.methodLink own index y).before args s = true ∧ (Cond.instanceMethod y).before args s = true ∧ (Cond.selects C y y).before args s = true
theorem vx_cwVW {own C : String} {index maxL mc ms : Nat} {y : MethodName} {bytes : ByteArray} {ret : Option FieldType} {hh : List (Nat × Nat × Nat × Nat)} {Ts ws ws' : List Cond} {rm : Room} (n : Nat) (ht : ∀ w ∈ Ts, w.before args s = true) (hT : GoodIn Ts (wsV own index C y ws)) (hw : ws = Cond.codeWith y bytes maxL ret hh :: ws') (hrc : rm.cells = mc) (hrs : rm.slots = ms)
    (hd : y.cls = C ∧ y.cls ≠ "java/lang/invoke/MethodHandle" ∧ y.cls ≠ "java/lang/invoke/VarHandle" ∧ (parseMethodDescriptor y.desc).map (fun d => d.parameters.length) = some n) (hR : rm.frames + 1 ≤ R.frames ∧ 8 + (maxL + 11) + rm.locals ≤ R.locals) :
    vx_CVW R s args own C index y bytes maxL ret hh ws rm mc ms n := by
  obtain ⟨hC, hd⟩ := hd
  subst hC
  have ok : ∀ w ∈ wsV own index y.cls y ws, w.before args s = true := fun w h => ht w (hT w h).1
  have hG : GoodIn Ts ws := fun w h => hT w (by unfold wsV; exact List.mem_append_right _ h)
  have hc : Cond.codeWith y bytes maxL ret hh ∈ ws := by rw [hw]; exact List.mem_cons_self
  refine ⟨⟨hrc, hrs, hR.1, hR.2, pay_in ht hG, hc⟩, ht _ (hG _ hc).1, ok _ (by simp [wsV]), ⟨hd.1, hd.2.1⟩, fun sig h => ?_, ok _ (by simp [wsV]), ok _ (by simp [wsV]), ok _ (by simp [wsV])⟩
  have h2 := hd.2.2
  rw [h] at h2
  exact (Option.some.inj h2).symm
theorem vx_runVW {y : MethodName} {bytes cc : ByteArray} {maxL nL mc ms n index : Nat} {ret : Option FieldType} {hh : List (Nat × Nat × Nat × Nat)} {ws : List Cond} {rm : Room} {Pc : Array Value → State → Prop} {Qc : Array Value → State → Outcome → State → Prop} {free : Addr → Prop} {Ts : List Cond} {own C : String} {b : Addr} {As rest : List Value} {g : JFrame}
    (S : CallFix p m c cc nL s args Ts own) (hM : Met l y ws rm Pc Qc mc ms free) (cw : vx_CVW R s args own C index y bytes maxL ret hh ws rm mc ms n) (hp : PreV s H C b Pc As)
    (hg : g.method = m) (hn : As.length = n) (hsize : g.locals.size = nL) (hstack : g.stack = As.reverse ++ .ref b :: rest) (hW : 2 * g.monitorRoom + (rest.map fun v => v.category).sum ≤ 8) (hdg : decode cc g.pc = .ok (.invokevirtual index, 3)) (hf : cells + mc ≤ R.cells ∧ slots + ms ≤ R.slots) :
    va_Run p l e R s m args below meth c H locs cells slots mc ms g rest (Qc (Value.ref b :: As).toArray) free := by
  obtain ⟨⟨hrc, hrs, hfr, hlo, hws, hcw⟩, hcode, hini, hy, hlen, hl, hin, hse⟩ := cw
  have hK : Back l R p e below s args y 3 8 (PreOf R mc ms Pc) (PostOf Qc mc ms free) := va_backW (hh := hh) (bytes := bytes) (maxL := maxL) (ret := ret) hM hp.1 hrc hrs hfr hlo hws hcw (fun a' U hW => word_at hW (Or.inl (by first | rfl | simp [Cond.onTables, Cond.keeps, Cond.steady])) hini)
  obtain ⟨hx, hb, hml, ho, -⟩ := S
  obtain ⟨-, ⟨cellB, hcB, hoB, hclB⟩, hPc⟩ := hp
  intro T hT X
  obtain ⟨v, vm₁, ⟨U', l2, c2, s2⟩, hW₁, X', ⟨g', mk, t, L, e1, e2, hq, h1, hL, h2, h3⟩, st⟩ := vx_callVW X hx (C := C) (hh := hh) (bytes := bytes) (maxL := maxL) (ret := ret) ho hl hin hse hcode hy hK (by rw [hT]; exact hcB) hoB hclB hg (hsize.trans hml.symm) (argsL := As) (rest := rest) (fun sig h => hn.trans (hlen sig h)) hstack hW (by rw [hb]; exact hdg)
    (fun vm₁ hW₁ => ⟨hf.1, hf.2, hPc (T.setVm vm₁) hT hW₁⟩)
  dsimp only [Pt.U, Pt.locs, Pt.cells, Pt.slots] at X' e1 e2 h1 h2 h3 st
  subst h1; subst h2; subst h3
  exact ⟨v, (T.setVm vm₁).calling g' mk (Value.ref b :: As).toArray, t, U', L, hT, X', hL, e1, e2, hq, st⟩
section
variable {y : MethodName} {bytes cc : ByteArray} {maxL nL mc ms n index : Nat} {ret : Option FieldType} {ws : List Cond} {rm : Room} {Pc : Array Value → State → Prop} {Qc : Array Value → State → Outcome → State → Prop} {XC : String → State → State → Prop} {free : Addr → Prop} {Ts : List Cond} {own C : String} {b : Addr} {As rest : List Value} {g : JFrame}
theorem vx_runVX {hh : List (Nat × Nat × Nat × Nat)} (S : CallFix p m c cc nL s args Ts own) (hM : vx_Met l y ws rm Pc Qc XC mc ms free) (cw : vx_CVW R s args own C index y bytes maxL ret hh ws rm mc ms n) (hp : PreV s H C b Pc As)
    (hg : g.method = m) (hn : As.length = n) (hsize : g.locals.size = nL) (hstack : g.stack = As.reverse ++ .ref b :: rest) (hW : 2 * g.monitorRoom + (rest.map fun v => v.category).sum ≤ 8) (hdg : decode cc g.pc = .ok (.invokevirtual index, 3)) (hf : cells + mc ≤ R.cells ∧ slots + ms ≤ R.slots) :
    vx_Run p l e R s m args below meth c H locs cells slots mc ms g rest (Qc (Value.ref b :: As).toArray) XC free := by
  obtain ⟨⟨hrc, hrs, hfr, hlo, hws, hcw⟩, hcode, hini, hy, hlen, hl, hin, hse⟩ := cw
  have hK : vx_Back l R p e below s args y 3 8 (PreOf R mc ms Pc) (PostOf Qc mc ms free) (vx_Post XC mc ms free) := vx_backW (hh := hh) (bytes := bytes) (maxL := maxL) (ret := ret) hM hp.1 hrc hrs hfr hlo hws hcw (fun a' U hW => word_at hW (Or.inl (by first | rfl | simp [Cond.onTables, Cond.keeps, Cond.steady])) hini)
  obtain ⟨hx, hb, hml, ho, -⟩ := S
  obtain ⟨-, ⟨cellB, hcB, hoB, hclB⟩, hPc⟩ := hp
  intro T hT X
  rcases vx_callVX X hx (C := C) (hh := hh) (bytes := bytes) (maxL := maxL) (ret := ret) ho hl hin hse hcode hy hK (by rw [hT]; exact hcB) hoB hclB hg (hsize.trans hml.symm) (argsL := As) (rest := rest) (fun sig h => hn.trans (hlen sig h)) hstack hW (by rw [hb]; exact hdg)
    (fun vm₁ hW₁ => ⟨hf.1, hf.2, hPc (T.setVm vm₁) hT hW₁⟩) with ⟨v, vm₁, ⟨U', l2, c2, s2⟩, hW₁, X', ⟨g', mk, t, L, e1, e2, hq, h1, hL, h2, h3⟩, st⟩ | ⟨q, vm₁, ⟨U', l2, c2, s2⟩, hW₁, X', ⟨g', mk, t, L, E, ce, e1, e2, hq, hce, hcv, hcl, h1, hL, h2, h3⟩, st⟩
  · dsimp only [Pt.U, Pt.locs, Pt.cells, Pt.slots] at X' e1 e2 h1 h2 h3 st
    subst h1; subst h2; subst h3
    exact Or.inl ⟨v, (T.setVm vm₁).calling g' mk (Value.ref b :: As).toArray, t, U', L, hT, X', hL, e1, e2, hq, st⟩
  · dsimp only [Pt.U, Pt.locs, Pt.cells, Pt.slots] at X' e1 e2 h1 h2 h3 st hcl
    subst h1; subst h2; subst h3
    exact Or.inr ⟨q, (T.setVm vm₁).calling g' mk (Value.ref b :: As).toArray, t, U', L, E, ce, hT, X', hL, e1, e2, hq, hce, hcv, vx_cls hW₁ hcl, st⟩
theorem vx_runSX {hh : List (Nat × Nat × Nat × Nat)} (S : CallFix p m c cc nL s args Ts own) (hM : vx_Met l y ws rm Pc Qc XC mc ms free) (cw : vx_CSW R s args own index y bytes maxL ret hh ws rm mc ms n) (hp : PreS s H Pc As)
    (hg : g.method = m) (hn : As.length = n) (hsize : g.locals.size = nL) (hstack : g.stack = As.reverse ++ rest) (hW : 2 * g.monitorRoom + (rest.map fun v => v.category).sum ≤ 8) (hdg : decode cc g.pc = .ok (.invokestatic index, 3)) (hf : cells + mc ≤ R.cells ∧ slots + ms ≤ R.slots) :
    vx_Run p l e R s m args below meth c H locs cells slots mc ms g rest (Qc As.toArray) XC free := by
  obtain ⟨⟨hrc, hrs, hfr, hlo, hws, hcw⟩, hcode, hini, hy, hlen, hl, hstt⟩ := cw
  have hK : vx_Back l R p e below s args y 3 8 (PreOf R mc ms Pc) (PostOf Qc mc ms free) (vx_Post XC mc ms free) := vx_backW (hh := hh) (bytes := bytes) (maxL := maxL) (ret := ret) hM hp.1 hrc hrs hfr hlo hws hcw (fun a' U hW => word_at hW (Or.inl (by first | rfl | simp [Cond.onTables, Cond.keeps, Cond.steady])) hini)
  obtain ⟨hx, hb, hml, ho, -⟩ := S
  intro T hT X
  rcases vx_callSX X hx (hh := hh) (bytes := bytes) (maxL := maxL) (ret := ret) ho hl hstt hini hcode hy hK hg (hsize.trans hml.symm) (argsL := As) (rest := rest) (fun sig h => hn.trans (hlen sig h)) hstack hW (by rw [hb]; exact hdg)
    (fun vm₁ hW₁ => ⟨hf.1, hf.2, hp.2 (T.setVm vm₁) hT hW₁⟩) with ⟨v, vm₁, ⟨U', l2, c2, s2⟩, hW₁, X', ⟨g', mk, t, L, e1, e2, hq, h1, hL, h2, h3⟩, st⟩ | ⟨q, vm₁, ⟨U', l2, c2, s2⟩, hW₁, X', ⟨g', mk, t, L, E, ce, e1, e2, hq, hce, hcv, hcl, h1, hL, h2, h3⟩, st⟩
  · dsimp only [Pt.U, Pt.locs, Pt.cells, Pt.slots] at X' e1 e2 h1 h2 h3 st
    subst h1; subst h2; subst h3
    exact Or.inl ⟨v, (T.setVm vm₁).calling g' mk As.toArray, t, U', L, hT, X', hL, e1, e2, hq, st⟩
  · dsimp only [Pt.U, Pt.locs, Pt.cells, Pt.slots] at X' e1 e2 h1 h2 h3 st hcl
    subst h1; subst h2; subst h3
    exact Or.inr ⟨q, (T.setVm vm₁).calling g' mk As.toArray, t, U', L, E, ce, hT, X', hL, e1, e2, hq, hce, hcv, vx_cls hW₁ hcl, st⟩
end
end VXH
theorem vx_ofWH {l : Launch} {y : MethodName} {ws ws' : List Cond} {rm : Room} {Pc : Array Value → State → Prop} {Qc : Array Value → State → Outcome → State → Prop} {XC : String → State → State → Prop} {mc ms : Nat} {free : Addr → Prop} {cc : ByteArray} {maxL : Nat} {ret : Option FieldType} {hh : List (Nat × Nat × Nat × Nat)}
    (hy : plainName y.cls = true) (hw : ws = Cond.codeWith y cc maxL ret hh :: ws')
    (body : ∀ p e s m args below meth c s₁, BodyLoose p l y (headSpec ws rm) cc maxL ret e s m args below meth c s₁ → c.maxLocals = maxL → Pc args s →
      W p l e (headSpec ws rm).room s m args below meth c s.heap [] 0 0 (vx_MQ below Qc XC args s mc ms free) (entryFrame m args maxL)) : vx_Met l y ws rm Pc Qc XC mc ms free := by
  refine MetFree.of_bodyS (code := cc) (maxLocals := maxL) (ret := ret) hy ?_ ?_
  · intro args s m h hn
    obtain ⟨m9, meth, c, hn9, h1, h2, h3, h4, -, h5, h6, -⟩ := Cond.codeWith_spec (atoms_spec (ws := ws) h _ (by rw [hw]; exact List.mem_cons_self))
    cases hn.symm.trans hn9
    exact ⟨meth, c, h1, h2, h3, h4, h5, h6⟩
  · intro p e s m args below meth c s₁ B hml hP _
    have hh0 : s₁.heap = s.heap := by rw [B.state]; rfl
    obtain ⟨t, a1, o, b1, b2, b3⟩ := body p e s m args below meth c s₁ B hml hP s₁ hh0 (Stand.of_body B)
    exact ⟨t, o, a1, b1, b2, b3⟩
/-! ===== END ===== -/
end
section
def RX0 : String := "FlushPlanner$Battery"
def TX0 : u_T := fun k => match k with
  | 0 => ("FlushPlanner$Battery", "capacity", "I", false)
  | 1 => ("FlushPlanner$Battery", "charge", "I", false)
  | 2 => ("FlushPlanner$Battery", "rate", "I", false)
  | 3 => ("FlushPlanner$Battery", "drain", "I", false)
  | 4 => ("FlushPlanner$Battery", "wear", "I", false)
  | _ => ("FlushPlanner$Battery", "discharge", "I", false)
def tyX0 : Nat → FieldType := fun k => match k with
  | 0 => .int
  | 1 => .int
  | 2 => .int
  | 3 => .int
  | 4 => .int
  | _ => .int
theorem nmX0 : ∀ a, a < 6 → ∀ b, b < 6 → a ≠ b → (TX0 a).2.1 ≠ (TX0 b).2.1 := by decide +kernel
theorem tyX0_ok : ∀ k, k < 6 → parseFieldDescriptor (TX0 k).2.2.1 = some (tyX0 k) := by decide +kernel
abbrev cX0_init : ByteArray := prog_2_method_1_code
def yX0_init : MethodName := ⟨RX0, "<init>", "()V"⟩
abbrev cX0_copyFrom : ByteArray := prog_2_method_2_code
def yX0_copyFrom : MethodName := ⟨RX0, "copyFrom", "(LFlushPlanner$Battery;)V"⟩
abbrev cX0_chargeForMinute : ByteArray := prog_2_method_3_code
def yX0_chargeForMinute : MethodName := ⟨RX0, "chargeForMinute", "()V"⟩
abbrev cX0_drainForMinute : ByteArray := prog_2_method_4_code
def yX0_drainForMinute : MethodName := ⟨RX0, "drainForMinute", "()V"⟩
abbrev cX0_spend : ByteArray := prog_2_method_5_code
def yX0_spend : MethodName := ⟨RX0, "spend", "(I)V"⟩
abbrev cX0_wornTimes : ByteArray := prog_2_method_6_code
def yX0_wornTimes : MethodName := ⟨RX0, "wornTimes", "()I"⟩
def RX1 : String := "FlushPlanner$Cache"
def TX1 : u_T := fun k => match k with
  | 0 => ("FlushPlanner$Cache", "count", "I", false)
  | 1 => ("FlushPlanner$Cache", "device", "[I", true)
  | 2 => ("FlushPlanner$Cache", "address", "[I", true)
  | 3 => ("FlushPlanner$Cache", "value", "[I", true)
  | _ => ("FlushPlanner$Cache", "since", "[I", true)
def tyX1 : Nat → FieldType := fun k => match k with
  | 0 => .int
  | 1 => .array .int
  | 2 => .array .int
  | 3 => .array .int
  | _ => .array .int
theorem nmX1 : ∀ a, a < 5 → ∀ b, b < 5 → a ≠ b → (TX1 a).2.1 ≠ (TX1 b).2.1 := by decide +kernel
theorem tyX1_ok : ∀ k, k < 5 → parseFieldDescriptor (TX1 k).2.2.1 = some (tyX1 k) := by decide +kernel
abbrev cX1_init : ByteArray := prog_3_method_1_code
def yX1_init : MethodName := ⟨RX1, "<init>", "()V"⟩
abbrev cX1_copyFrom : ByteArray := prog_3_method_2_code
def yX1_copyFrom : MethodName := ⟨RX1, "copyFrom", "(LFlushPlanner$Cache;)V"⟩
abbrev cX1_copyBlock : ByteArray := prog_3_method_3_code
def yX1_copyBlock : MethodName := ⟨RX1, "copyBlock", "(LFlushPlanner$Cache;II)V"⟩
abbrev cX1_allBlocks : ByteArray := prog_3_method_4_code
def yX1_allBlocks : MethodName := ⟨RX1, "allBlocks", "()I"⟩
abbrev cX1_blocksOn : ByteArray := prog_3_method_5_code
def yX1_blocksOn : MethodName := ⟨RX1, "blocksOn", "(I)I"⟩
abbrev cX1_valueIn : ByteArray := prog_3_method_6_code
def yX1_valueIn : MethodName := ⟨RX1, "valueIn", "(I)I"⟩
abbrev cX1_isFollowedBy : ByteArray := prog_3_method_7_code
def yX1_isFollowedBy : MethodName := ⟨RX1, "isFollowedBy", "(II)Z"⟩
abbrev cX1_mostValuable : ByteArray := prog_3_method_8_code
def yX1_mostValuable : MethodName := ⟨RX1, "mostValuable", "(I)I"⟩
abbrev cX1_indexOf : ByteArray := prog_3_method_9_code
def yX1_indexOf : MethodName := ⟨RX1, "indexOf", "(II)I"⟩
abbrev cX1_put : ByteArray := prog_3_method_10_code
def yX1_put : MethodName := ⟨RX1, "put", "(IIII)V"⟩
abbrev cX1_isBehind : ByteArray := prog_3_method_11_code
def yX1_isBehind : MethodName := ⟨RX1, "isBehind", "(III)Z"⟩
abbrev cX1_drop : ByteArray := prog_3_method_12_code
def yX1_drop : MethodName := ⟨RX1, "drop", "(II)V"⟩
abbrev cX1_removeSet : ByteArray := prog_3_method_13_code
def yX1_removeSet : MethodName := ⟨RX1, "removeSet", "(I)V"⟩
def RX2 : String := "FlushPlanner$Devices"
def TX2 : u_T := fun k => match k with
  | 0 => ("FlushPlanner$Devices", "count", "I", false)
  | 1 => ("FlushPlanner$Devices", "spinUp", "[I", true)
  | 2 => ("FlushPlanner$Devices", "seek", "[I", true)
  | 3 => ("FlushPlanner$Devices", "writing", "[I", true)
  | _ => ("FlushPlanner$Devices", "isFailed", "[Z", true)
def tyX2 : Nat → FieldType := fun k => match k with
  | 0 => .int
  | 1 => .array .int
  | 2 => .array .int
  | 3 => .array .int
  | _ => .array .boolean
theorem nmX2 : ∀ a, a < 5 → ∀ b, b < 5 → a ≠ b → (TX2 a).2.1 ≠ (TX2 b).2.1 := by decide +kernel
theorem tyX2_ok : ∀ k, k < 5 → parseFieldDescriptor (TX2 k).2.2.1 = some (tyX2 k) := by decide +kernel
abbrev cX2_init : ByteArray := prog_4_method_1_code
def yX2_init : MethodName := ⟨RX2, "<init>", "()V"⟩
abbrev cX2_copyFrom : ByteArray := prog_4_method_2_code
def yX2_copyFrom : MethodName := ⟨RX2, "copyFrom", "(LFlushPlanner$Devices;)V"⟩
abbrev cX2_energyIn : ByteArray := prog_4_method_3_code
def yX2_energyIn : MethodName := ⟨RX2, "energyIn", "(LFlushPlanner$Cache;I)I"⟩
def RX3 : String := "FlushPlanner$Rules"
def TX3 : u_T := fun k => match k with
  | 0 => ("FlushPlanner$Rules", "reserve", "I", false)
  | 1 => ("FlushPlanner$Rules", "slots", "I", false)
  | 2 => ("FlushPlanner$Rules", "mode", "I", false)
  | _ => ("FlushPlanner$Rules", "threshold", "I", false)
def tyX3 : Nat → FieldType := fun k => match k with
  | 0 => .int
  | 1 => .int
  | 2 => .int
  | _ => .int
theorem nmX3 : ∀ a, a < 4 → ∀ b, b < 4 → a ≠ b → (TX3 a).2.1 ≠ (TX3 b).2.1 := by decide +kernel
theorem tyX3_ok : ∀ k, k < 4 → parseFieldDescriptor (TX3 k).2.2.1 = some (tyX3 k) := by decide +kernel
abbrev cX3_init : ByteArray := prog_5_method_1_code
def yX3_init : MethodName := ⟨RX3, "<init>", "()V"⟩
abbrev cX3_copyFrom : ByteArray := prog_5_method_2_code
def yX3_copyFrom : MethodName := ⟨RX3, "copyFrom", "(LFlushPlanner$Rules;)V"⟩
abbrev cX3_setDefaults : ByteArray := prog_5_method_3_code
def yX3_setDefaults : MethodName := ⟨RX3, "setDefaults", "()V"⟩
def RX4 : String := "FlushPlanner$Search"
def TX4 : u_T := fun k => match k with
  | 0 => ("FlushPlanner$Search", "idle", "[J", true)
  | 1 => ("FlushPlanner$Search", "spun", "[J", true)
  | _ => ("FlushPlanner$Search", "running", "[J", true)
def tyX4 : Nat → FieldType := fun k => match k with
  | 0 => .array .long
  | 1 => .array .long
  | _ => .array .long
theorem nmX4 : ∀ a, a < 3 → ∀ b, b < 3 → a ≠ b → (TX4 a).2.1 ≠ (TX4 b).2.1 := by decide +kernel
theorem tyX4_ok : ∀ k, k < 3 → parseFieldDescriptor (TX4 k).2.2.1 = some (tyX4 k) := by decide +kernel
abbrev cX4_init : ByteArray := prog_6_method_1_code
def yX4_init : MethodName := ⟨RX4, "<init>", "()V"⟩
abbrev cX4_best : ByteArray := prog_6_method_2_code
def yX4_best : MethodName := ⟨RX4, "best", "(LFlushPlanner$State;II)I"⟩
abbrev cX4_leastEnergy : ByteArray := prog_6_method_3_code
def yX4_leastEnergy : MethodName := ⟨RX4, "leastEnergy", "(LFlushPlanner$State;II)I"⟩
abbrev cX4_rank : ByteArray := prog_6_method_4_code
def yX4_rank : MethodName := ⟨RX4, "rank", "(LFlushPlanner$State;II)V"⟩
abbrev cX4_leaveDevice : ByteArray := prog_6_method_5_code
def yX4_leaveDevice : MethodName := ⟨RX4, "leaveDevice", "(I)V"⟩
abbrev cX4_considerBlock : ByteArray := prog_6_method_6_code
def yX4_considerBlock : MethodName := ⟨RX4, "considerBlock", "(LFlushPlanner$State;IZI)V"⟩
abbrev cX4_rankAt : ByteArray := prog_6_method_7_code
def yX4_rankAt : MethodName := ⟨RX4, "rankAt", "([JI)J"⟩
def RX5 : String := "FlushPlanner$SetupText"
def TX5 : u_T := fun k => match k with
  | 0 => ("FlushPlanner$SetupText", "bytes", "[B", true)
  | 1 => ("FlushPlanner$SetupText", "length", "I", false)
  | 2 => ("FlushPlanner$SetupText", "errorFound", "I", false)
  | 3 => ("FlushPlanner$SetupText", "errorPlace", "I", false)
  | 4 => ("FlushPlanner$SetupText", "kind", "I", false)
  | 5 => ("FlushPlanner$SetupText", "start", "I", false)
  | _ => ("FlushPlanner$SetupText", "end", "I", false)
def tyX5 : Nat → FieldType := fun k => match k with
  | 0 => .array .byte
  | 1 => .int
  | 2 => .int
  | 3 => .int
  | 4 => .int
  | 5 => .int
  | _ => .int
theorem nmX5 : ∀ a, a < 7 → ∀ b, b < 7 → a ≠ b → (TX5 a).2.1 ≠ (TX5 b).2.1 := by decide +kernel
theorem tyX5_ok : ∀ k, k < 7 → parseFieldDescriptor (TX5 k).2.2.1 = some (tyX5 k) := by decide +kernel
abbrev cX5_init : ByteArray := prog_7_method_1_code
def yX5_init : MethodName := ⟨RX5, "<init>", "()V"⟩
abbrev cX5_addBytesOf : ByteArray := prog_7_method_2_code
def yX5_addBytesOf : MethodName := ⟨RX5, "addBytesOf", "(I)V"⟩
abbrev cX5_readInto : ByteArray := prog_7_method_3_code
def yX5_readInto : MethodName := ⟨RX5, "readInto", "(LFlushPlanner$State;)V"⟩
abbrev cX5_readBattery : ByteArray := prog_7_method_4_code
def yX5_readBattery : MethodName := ⟨RX5, "readBattery", "(LFlushPlanner$Battery;)V"⟩
abbrev cX5_readSettings : ByteArray := prog_7_method_5_code
def yX5_readSettings : MethodName := ⟨RX5, "readSettings", "(LFlushPlanner$Rules;)V"⟩
abbrev cX5_settingAtToken : ByteArray := prog_7_method_6_code
def yX5_settingAtToken : MethodName := ⟨RX5, "settingAtToken", "()I"⟩
abbrev cX5_readSetting : ByteArray := prog_7_method_7_code
def yX5_readSetting : MethodName := ⟨RX5, "readSetting", "(LFlushPlanner$Rules;I)V"⟩
abbrev cX5_readMode : ByteArray := prog_7_method_8_code
def yX5_readMode : MethodName := ⟨RX5, "readMode", "(LFlushPlanner$Rules;)V"⟩
abbrev cX5_readDevices : ByteArray := prog_7_method_9_code
def yX5_readDevices : MethodName := ⟨RX5, "readDevices", "(LFlushPlanner$Devices;)V"⟩
abbrev cX5_takeWord : ByteArray := prog_7_method_10_code
def yX5_takeWord : MethodName := ⟨RX5, "takeWord", "(Ljava/lang/String;)V"⟩
abbrev cX5_takeSemicolon : ByteArray := prog_7_method_11_code
def yX5_takeSemicolon : MethodName := ⟨RX5, "takeSemicolon", "()V"⟩
abbrev cX5_takeNumber : ByteArray := prog_7_method_12_code
def yX5_takeNumber : MethodName := ⟨RX5, "takeNumber", "(II)I"⟩
abbrev cX5_refuse : ByteArray := prog_7_method_13_code
def yX5_refuse : MethodName := ⟨RX5, "refuse", "(I)V"⟩
abbrev cX5_isWord : ByteArray := prog_7_method_14_code
def yX5_isWord : MethodName := ⟨RX5, "isWord", "(Ljava/lang/String;)Z"⟩
abbrev cX5_readToken : ByteArray := prog_7_method_15_code
def yX5_readToken : MethodName := ⟨RX5, "readToken", "()V"⟩
abbrev cX5_isBlank : ByteArray := prog_7_method_16_code
def yX5_isBlank : MethodName := ⟨RX5, "isBlank", "(B)Z"⟩
abbrev cX5_isLetter : ByteArray := prog_7_method_17_code
def yX5_isLetter : MethodName := ⟨RX5, "isLetter", "(B)Z"⟩
abbrev cX5_isDigit : ByteArray := prog_7_method_18_code
def yX5_isDigit : MethodName := ⟨RX5, "isDigit", "(B)Z"⟩
def RX6 : String := "FlushPlanner$State"
def TX6 : u_T := fun k => match k with
  | 0 => ("FlushPlanner$State", "battery", "LFlushPlanner$Battery;", true)
  | 1 => ("FlushPlanner$State", "rules", "LFlushPlanner$Rules;", true)
  | 2 => ("FlushPlanner$State", "devices", "LFlushPlanner$Devices;", true)
  | 3 => ("FlushPlanner$State", "cache", "LFlushPlanner$Cache;", true)
  | 4 => ("FlushPlanner$State", "totals", "[I", true)
  | 5 => ("FlushPlanner$State", "time", "I", false)
  | _ => ("FlushPlanner$State", "isOn", "Z", false)
def tyX6 : Nat → FieldType := fun k => match k with
  | 0 => .object "FlushPlanner$Battery"
  | 1 => .object "FlushPlanner$Rules"
  | 2 => .object "FlushPlanner$Devices"
  | 3 => .object "FlushPlanner$Cache"
  | 4 => .array .int
  | 5 => .int
  | _ => .boolean
theorem nmX6 : ∀ a, a < 7 → ∀ b, b < 7 → a ≠ b → (TX6 a).2.1 ≠ (TX6 b).2.1 := by decide +kernel
theorem tyX6_ok : ∀ k, k < 7 → parseFieldDescriptor (TX6 k).2.2.1 = some (tyX6 k) := by decide +kernel
abbrev cX6_init : ByteArray := prog_8_method_1_code
def yX6_init : MethodName := ⟨RX6, "<init>", "()V"⟩
abbrev cX6_copyFrom : ByteArray := prog_8_method_2_code
def yX6_copyFrom : MethodName := ⟨RX6, "copyFrom", "(LFlushPlanner$State;)V"⟩
abbrev cX6_usableBlocks : ByteArray := prog_8_method_3_code
def yX6_usableBlocks : MethodName := ⟨RX6, "usableBlocks", "()I"⟩
abbrev cX6_neededEnergy : ByteArray := prog_8_method_4_code
def yX6_neededEnergy : MethodName := ⟨RX6, "neededEnergy", "()I"⟩
abbrev cX6_passMinute : ByteArray := prog_8_method_5_code
def yX6_passMinute : MethodName := ⟨RX6, "passMinute", "()I"⟩
abbrev cX6_loseAll : ByteArray := prog_8_method_6_code
def yX6_loseAll : MethodName := ⟨RX6, "loseAll", "()I"⟩
def RX7 : String := "FlushPlanner"
def TX7 : u_T := fun k => match k with
  | 0 => ("FlushPlanner", "text", "LFlushPlanner$SetupText;", true)
  | 1 => ("FlushPlanner", "latestErrorCode", "I", false)
  | 2 => ("FlushPlanner", "latestErrorPosition", "I", false)
  | 3 => ("FlushPlanner", "now", "LFlushPlanner$State;", true)
  | 4 => ("FlushPlanner", "draft", "LFlushPlanner$State;", true)
  | 5 => ("FlushPlanner", "savedStates", "[LFlushPlanner$State;", true)
  | 6 => ("FlushPlanner", "isSaved", "[Z", true)
  | 7 => ("FlushPlanner", "search", "LFlushPlanner$Search;", true)
  | 8 => ("FlushPlanner", "trialBattery", "LFlushPlanner$Battery;", true)
  | _ => ("FlushPlanner", "trialCache", "LFlushPlanner$Cache;", true)
def tyX7 : Nat → FieldType := fun k => match k with
  | 0 => .object "FlushPlanner$SetupText"
  | 1 => .int
  | 2 => .int
  | 3 => .object "FlushPlanner$State"
  | 4 => .object "FlushPlanner$State"
  | 5 => .array (.object "FlushPlanner$State")
  | 6 => .array .boolean
  | 7 => .object "FlushPlanner$Search"
  | 8 => .object "FlushPlanner$Battery"
  | _ => .object "FlushPlanner$Cache"
theorem nmX7 : ∀ a, a < 10 → ∀ b, b < 10 → a ≠ b → (TX7 a).2.1 ≠ (TX7 b).2.1 := by decide +kernel
theorem tyX7_ok : ∀ k, k < 10 → parseFieldDescriptor (TX7 k).2.2.1 = some (tyX7 k) := by decide +kernel
abbrev cX7_init : ByteArray := prog_1_method_1_code
def yX7_init : MethodName := ⟨RX7, "<init>", "()V"⟩
abbrev cX7_append : ByteArray := prog_1_method_2_code
def yX7_append : MethodName := ⟨RX7, "append", "(IIIII)I"⟩
abbrev cX7_truncate : ByteArray := prog_1_method_3_code
def yX7_truncate : MethodName := ⟨RX7, "truncate", "(I)I"⟩
abbrev cX7_load : ByteArray := prog_1_method_4_code
def yX7_load : MethodName := ⟨RX7, "load", "()I"⟩
abbrev cX7_errorCode : ByteArray := prog_1_method_5_code
def yX7_errorCode : MethodName := ⟨RX7, "errorCode", "()I"⟩
abbrev cX7_errorPosition : ByteArray := prog_1_method_6_code
def yX7_errorPosition : MethodName := ⟨RX7, "errorPosition", "()I"⟩
abbrev cX7_report : ByteArray := prog_1_method_7_code
def yX7_report : MethodName := ⟨RX7, "report", "(I)I"⟩
abbrev cX7_device : ByteArray := prog_1_method_8_code
def yX7_device : MethodName := ⟨RX7, "device", "(II)I"⟩
abbrev cX7_block : ByteArray := prog_1_method_9_code
def yX7_block : MethodName := ⟨RX7, "block", "(II)I"⟩
abbrev cX7_find : ByteArray := prog_1_method_10_code
def yX7_find : MethodName := ⟨RX7, "find", "(II)I"⟩
abbrev cX7_oldest : ByteArray := prog_1_method_11_code
def yX7_oldest : MethodName := ⟨RX7, "oldest", "()I"⟩
abbrev cX7_total : ByteArray := prog_1_method_12_code
def yX7_total : MethodName := ⟨RX7, "total", "(I)I"⟩
abbrev cX7_write : ByteArray := prog_1_method_13_code
def yX7_write : MethodName := ⟨RX7, "write", "(III)Z"⟩
abbrev cX7_wouldCache : ByteArray := prog_1_method_14_code
def yX7_wouldCache : MethodName := ⟨RX7, "wouldCache", "(III)Z"⟩
abbrev cX7_clean : ByteArray := prog_1_method_15_code
def yX7_clean : MethodName := ⟨RX7, "clean", "(I)I"⟩
abbrev cX7_setFailed : ByteArray := prog_1_method_16_code
def yX7_setFailed : MethodName := ⟨RX7, "setFailed", "(IZ)Z"⟩
abbrev cX7_setMode : ByteArray := prog_1_method_17_code
def yX7_setMode : MethodName := ⟨RX7, "setMode", "(II)I"⟩
abbrev cX7_setPower : ByteArray := prog_1_method_18_code
def yX7_setPower : MethodName := ⟨RX7, "setPower", "(Z)Z"⟩
abbrev cX7_advance : ByteArray := prog_1_method_19_code
def yX7_advance : MethodName := ⟨RX7, "advance", "(I)I"⟩
abbrev cX7_flush : ByteArray := prog_1_method_20_code
def yX7_flush : MethodName := ⟨RX7, "flush", "()I"⟩
abbrev cX7_flushDevice : ByteArray := prog_1_method_21_code
def yX7_flushDevice : MethodName := ⟨RX7, "flushDevice", "(I)I"⟩
abbrev cX7_need : ByteArray := prog_1_method_22_code
def yX7_need : MethodName := ⟨RX7, "need", "()I"⟩
abbrev cX7_energyOf : ByteArray := prog_1_method_23_code
def yX7_energyOf : MethodName := ⟨RX7, "energyOf", "(I)I"⟩
abbrev cX7_valueOf : ByteArray := prog_1_method_24_code
def yX7_valueOf : MethodName := ⟨RX7, "valueOf", "(I)I"⟩
abbrev cX7_bestSet : ByteArray := prog_1_method_25_code
def yX7_bestSet : MethodName := ⟨RX7, "bestSet", "(I)I"⟩
abbrev cX7_bestValue : ByteArray := prog_1_method_26_code
def yX7_bestValue : MethodName := ⟨RX7, "bestValue", "(I)I"⟩
abbrev cX7_greedySet : ByteArray := prog_1_method_27_code
def yX7_greedySet : MethodName := ⟨RX7, "greedySet", "(I)I"⟩
abbrev cX7_quality : ByteArray := prog_1_method_28_code
def yX7_quality : MethodName := ⟨RX7, "quality", "(I)D"⟩
abbrev cX7_energyFor : ByteArray := prog_1_method_29_code
def yX7_energyFor : MethodName := ⟨RX7, "energyFor", "(I)I"⟩
abbrev cX7_extra : ByteArray := prog_1_method_30_code
def yX7_extra : MethodName := ⟨RX7, "extra", "(I)I"⟩
abbrev cX7_minutesLeft : ByteArray := prog_1_method_31_code
def yX7_minutesLeft : MethodName := ⟨RX7, "minutesLeft", "()I"⟩
abbrev cX7_valueAfter : ByteArray := prog_1_method_32_code
def yX7_valueAfter : MethodName := ⟨RX7, "valueAfter", "(I)I"⟩
abbrev cX7_minutesToSafety : ByteArray := prog_1_method_33_code
def yX7_minutesToSafety : MethodName := ⟨RX7, "minutesToSafety", "()I"⟩
abbrev cX7_gainOfRepair : ByteArray := prog_1_method_34_code
def yX7_gainOfRepair : MethodName := ⟨RX7, "gainOfRepair", "(I)I"⟩
abbrev cX7_costliest : ByteArray := prog_1_method_35_code
def yX7_costliest : MethodName := ⟨RX7, "costliest", "()I"⟩
abbrev cX7_save : ByteArray := prog_1_method_36_code
def yX7_save : MethodName := ⟨RX7, "save", "(I)V"⟩
abbrev cX7_restore : ByteArray := prog_1_method_37_code
def yX7_restore : MethodName := ⟨RX7, "restore", "(I)V"⟩
abbrev cX7_requireDevice : ByteArray := prog_1_method_38_code
def yX7_requireDevice : MethodName := ⟨RX7, "requireDevice", "(I)V"⟩
abbrev cX7_requireAddress : ByteArray := prog_1_method_39_code
def yX7_requireAddress : MethodName := ⟨RX7, "requireAddress", "(I)V"⟩
abbrev cX7_requireBlock : ByteArray := prog_1_method_40_code
def yX7_requireBlock : MethodName := ⟨RX7, "requireBlock", "(I)V"⟩
abbrev cX7_requireSlot : ByteArray := prog_1_method_41_code
def yX7_requireSlot : MethodName := ⟨RX7, "requireSlot", "(I)V"⟩
abbrev cX7_requireSet : ByteArray := prog_1_method_42_code
def yX7_requireSet : MethodName := ⟨RX7, "requireSet", "(I)V"⟩
abbrev cX7_requireEnergy : ByteArray := prog_1_method_43_code
def yX7_requireEnergy : MethodName := ⟨RX7, "requireEnergy", "(I)V"⟩
abbrev cX7_requireWritable : ByteArray := prog_1_method_44_code
def yX7_requireWritable : MethodName := ⟨RX7, "requireWritable", "(III)V"⟩
abbrev cX7_isAllowed : ByteArray := prog_1_method_45_code
def yX7_isAllowed : MethodName := ⟨RX7, "isAllowed", "(III)Z"⟩
abbrev cX7_isGuarded : ByteArray := prog_1_method_46_code
def yX7_isGuarded : MethodName := ⟨RX7, "isGuarded", "(II)Z"⟩
abbrev cX7_flushSet : ByteArray := prog_1_method_47_code
def yX7_flushSet : MethodName := ⟨RX7, "flushSet", "(I)I"⟩
abbrev cX7_valueFor : ByteArray := prog_1_method_48_code
def yX7_valueFor : MethodName := ⟨RX7, "valueFor", "(II)I"⟩
abbrev cX7_greedyBlocks : ByteArray := prog_1_method_49_code
def yX7_greedyBlocks : MethodName := ⟨RX7, "greedyBlocks", "(I)I"⟩
def RX8 : String := "FlushPlannerModel"
def TX8 : u_T := fun k => match k with
  | 0 => ("FlushPlannerModel", "thrown", "I", false)
  | 1 => ("FlushPlannerModel", "a", "[I", true)
  | 2 => ("FlushPlannerModel", "told", "[I", true)
  | 3 => ("FlushPlannerModel", "saved", "[I", true)
  | 4 => ("FlushPlannerModel", "beside", "[I", true)
  | 5 => ("FlushPlannerModel", "isSaved", "[Z", true)
  | 6 => ("FlushPlannerModel", "text", "[I", true)
  | 7 => ("FlushPlannerModel", "typed", "I", false)
  | 8 => ("FlushPlannerModel", "ended", "I", false)
  | 9 => ("FlushPlannerModel", "next", "I", false)
  | 10 => ("FlushPlannerModel", "begin", "I", false)
  | 11 => ("FlushPlannerModel", "sort", "I", false)
  | 12 => ("FlushPlannerModel", "number", "I", false)
  | 13 => ("FlushPlannerModel", "errorCode", "I", false)
  | 14 => ("FlushPlannerModel", "errorAt", "I", false)
  | 15 => ("FlushPlannerModel", "now", "[J", true)
  | 16 => ("FlushPlannerModel", "then", "[J", true)
  | _ => ("FlushPlannerModel", "best", "[J", true)
def tyX8 : Nat → FieldType := fun k => match k with
  | 0 => .int
  | 1 => .array .int
  | 2 => .array .int
  | 3 => .array .int
  | 4 => .array .int
  | 5 => .array .boolean
  | 6 => .array .int
  | 7 => .int
  | 8 => .int
  | 9 => .int
  | 10 => .int
  | 11 => .int
  | 12 => .int
  | 13 => .int
  | 14 => .int
  | 15 => .array .long
  | 16 => .array .long
  | _ => .array .long
theorem nmX8 : ∀ a, a < 18 → ∀ b, b < 18 → a ≠ b → (TX8 a).2.1 ≠ (TX8 b).2.1 := by decide +kernel
theorem tyX8_ok : ∀ k, k < 18 → parseFieldDescriptor (TX8 k).2.2.1 = some (tyX8 k) := by decide +kernel
abbrev cX8_init : ByteArray := prog_10_method_1_code
def yX8_init : MethodName := ⟨RX8, "<init>", "()V"⟩
abbrev cX8_thrown : ByteArray := prog_10_method_2_code
def yX8_thrown : MethodName := ⟨RX8, "thrown", "()I"⟩
abbrev cX8_isIn : ByteArray := prog_10_method_3_code
def yX8_isIn : MethodName := ⟨RX8, "isIn", "(III)Z"⟩
abbrev cX8_may : ByteArray := prog_10_method_4_code
def yX8_may : MethodName := ⟨RX8, "may", "(ZI)Z"⟩
abbrev cX8_has : ByteArray := prog_10_method_5_code
def yX8_has : MethodName := ⟨RX8, "has", "(II)Z"⟩
abbrev cX8_plain : ByteArray := prog_10_method_6_code
def yX8_plain : MethodName := ⟨RX8, "plain", "()V"⟩
abbrev cX8_takes : ByteArray := prog_10_method_7_code
def yX8_takes : MethodName := ⟨RX8, "takes", "()V"⟩
abbrev cX8_append : ByteArray := prog_10_method_8_code
def yX8_append : MethodName := ⟨RX8, "append", "(IIIII)I"⟩
abbrev cX8_truncate : ByteArray := prog_10_method_9_code
def yX8_truncate : MethodName := ⟨RX8, "truncate", "(I)I"⟩
abbrev cX8_at : ByteArray := prog_10_method_10_code
def yX8_at : MethodName := ⟨RX8, "at", "(I)I"⟩
abbrev cX8_isLetter : ByteArray := prog_10_method_11_code
def yX8_isLetter : MethodName := ⟨RX8, "isLetter", "(I)Z"⟩
abbrev cX8_isDigit : ByteArray := prog_10_method_12_code
def yX8_isDigit : MethodName := ⟨RX8, "isDigit", "(I)Z"⟩
abbrev cX8_token : ByteArray := prog_10_method_13_code
def yX8_token : MethodName := ⟨RX8, "token", "()V"⟩
abbrev cX8_isWrong : ByteArray := prog_10_method_14_code
def yX8_isWrong : MethodName := ⟨RX8, "isWrong", "()Z"⟩
abbrev cX8_fails : ByteArray := prog_10_method_15_code
def yX8_fails : MethodName := ⟨RX8, "fails", "(I)V"⟩
abbrev cX8_isWord : ByteArray := prog_10_method_16_code
def yX8_isWord : MethodName := ⟨RX8, "isWord", "(Ljava/lang/String;)Z"⟩
abbrev cX8_takesWord : ByteArray := prog_10_method_17_code
def yX8_takesWord : MethodName := ⟨RX8, "takesWord", "(Ljava/lang/String;)Z"⟩
abbrev cX8_figure : ByteArray := prog_10_method_18_code
def yX8_figure : MethodName := ⟨RX8, "figure", "(II)I"⟩
abbrev cX8_ends : ByteArray := prog_10_method_19_code
def yX8_ends : MethodName := ⟨RX8, "ends", "()V"⟩
abbrev cX8_battery : ByteArray := prog_10_method_20_code
def yX8_battery : MethodName := ⟨RX8, "battery", "()V"⟩
abbrev cX8_mode : ByteArray := prog_10_method_21_code
def yX8_mode : MethodName := ⟨RX8, "mode", "()V"⟩
abbrev cX8_setting : ByteArray := prog_10_method_22_code
def yX8_setting : MethodName := ⟨RX8, "setting", "()I"⟩
abbrev cX8_settings : ByteArray := prog_10_method_23_code
def yX8_settings : MethodName := ⟨RX8, "settings", "()V"⟩
abbrev cX8_oneDevice : ByteArray := prog_10_method_24_code
def yX8_oneDevice : MethodName := ⟨RX8, "oneDevice", "()V"⟩
abbrev cX8_load : ByteArray := prog_10_method_25_code
def yX8_load : MethodName := ⟨RX8, "load", "()I"⟩
abbrev cX8_errorCode : ByteArray := prog_10_method_26_code
def yX8_errorCode : MethodName := ⟨RX8, "errorCode", "()I"⟩
abbrev cX8_errorPosition : ByteArray := prog_10_method_27_code
def yX8_errorPosition : MethodName := ⟨RX8, "errorPosition", "()I"⟩
abbrev cX8_isDevice : ByteArray := prog_10_method_28_code
def yX8_isDevice : MethodName := ⟨RX8, "isDevice", "(I)Z"⟩
abbrev cX8_isBlock : ByteArray := prog_10_method_29_code
def yX8_isBlock : MethodName := ⟨RX8, "isBlock", "(I)Z"⟩
abbrev cX8_of : ByteArray := prog_10_method_30_code
def yX8_of : MethodName := ⟨RX8, "of", "(II)I"⟩
abbrev cX8_deviceOf : ByteArray := prog_10_method_31_code
def yX8_deviceOf : MethodName := ⟨RX8, "deviceOf", "(I)I"⟩
abbrev cX8_hasFailed : ByteArray := prog_10_method_32_code
def yX8_hasFailed : MethodName := ⟨RX8, "hasFailed", "(I)Z"⟩
abbrev cX8_blockAt : ByteArray := prog_10_method_33_code
def yX8_blockAt : MethodName := ⟨RX8, "blockAt", "(II)I"⟩
abbrev cX8_comes : ByteArray := prog_10_method_34_code
def yX8_comes : MethodName := ⟨RX8, "comes", "(III)V"⟩
abbrev cX8_goes : ByteArray := prog_10_method_35_code
def yX8_goes : MethodName := ⟨RX8, "goes", "(I)V"⟩
abbrev cX8_allGo : ByteArray := prog_10_method_36_code
def yX8_allGo : MethodName := ⟨RX8, "allGo", "(I)V"⟩
abbrev cX8_all : ByteArray := prog_10_method_37_code
def yX8_all : MethodName := ⟨RX8, "all", "()I"⟩
abbrev cX8_setOf : ByteArray := prog_10_method_38_code
def yX8_setOf : MethodName := ⟨RX8, "setOf", "(I)I"⟩
abbrev cX8_possible : ByteArray := prog_10_method_39_code
def yX8_possible : MethodName := ⟨RX8, "possible", "()I"⟩
abbrev cX8_bits : ByteArray := prog_10_method_40_code
def yX8_bits : MethodName := ⟨RX8, "bits", "(I)I"⟩
abbrev cX8_valueIn : ByteArray := prog_10_method_41_code
def yX8_valueIn : MethodName := ⟨RX8, "valueIn", "(I)I"⟩
abbrev cX8_energyIn : ByteArray := prog_10_method_42_code
def yX8_energyIn : MethodName := ⟨RX8, "energyIn", "(I)I"⟩
abbrev cX8_needed : ByteArray := prog_10_method_43_code
def yX8_needed : MethodName := ⟨RX8, "needed", "()I"⟩
abbrev cX8_report : ByteArray := prog_10_method_44_code
def yX8_report : MethodName := ⟨RX8, "report", "(I)I"⟩
abbrev cX8_device : ByteArray := prog_10_method_45_code
def yX8_device : MethodName := ⟨RX8, "device", "(II)I"⟩
abbrev cX8_block : ByteArray := prog_10_method_46_code
def yX8_block : MethodName := ⟨RX8, "block", "(II)I"⟩
abbrev cX8_isPlace : ByteArray := prog_10_method_47_code
def yX8_isPlace : MethodName := ⟨RX8, "isPlace", "(II)Z"⟩
abbrev cX8_find : ByteArray := prog_10_method_48_code
def yX8_find : MethodName := ⟨RX8, "find", "(II)I"⟩
abbrev cX8_oldest : ByteArray := prog_10_method_49_code
def yX8_oldest : MethodName := ⟨RX8, "oldest", "()I"⟩
abbrev cX8_total : ByteArray := prog_10_method_50_code
def yX8_total : MethodName := ⟨RX8, "total", "(I)I"⟩
abbrev cX8_isGuarded : ByteArray := prog_10_method_51_code
def yX8_isGuarded : MethodName := ⟨RX8, "isGuarded", "()Z"⟩
abbrev cX8_lays : ByteArray := prog_10_method_52_code
def yX8_lays : MethodName := ⟨RX8, "lays", "(III)Z"⟩
abbrev cX8_mayWrite : ByteArray := prog_10_method_53_code
def yX8_mayWrite : MethodName := ⟨RX8, "mayWrite", "(III)Z"⟩
abbrev cX8_write : ByteArray := prog_10_method_54_code
def yX8_write : MethodName := ⟨RX8, "write", "(III)Z"⟩
abbrev cX8_wouldCache : ByteArray := prog_10_method_55_code
def yX8_wouldCache : MethodName := ⟨RX8, "wouldCache", "(III)Z"⟩
abbrev cX8_clean : ByteArray := prog_10_method_56_code
def yX8_clean : MethodName := ⟨RX8, "clean", "(I)I"⟩
abbrev cX8_setFailed : ByteArray := prog_10_method_57_code
def yX8_setFailed : MethodName := ⟨RX8, "setFailed", "(IZ)Z"⟩
abbrev cX8_setMode : ByteArray := prog_10_method_58_code
def yX8_setMode : MethodName := ⟨RX8, "setMode", "(II)I"⟩
abbrev cX8_setPower : ByteArray := prog_10_method_59_code
def yX8_setPower : MethodName := ⟨RX8, "setPower", "(Z)Z"⟩
abbrev cX8_drains : ByteArray := prog_10_method_60_code
def yX8_drains : MethodName := ⟨RX8, "drains", "(I)V"⟩
abbrev cX8_minuteWithout : ByteArray := prog_10_method_61_code
def yX8_minuteWithout : MethodName := ⟨RX8, "minuteWithout", "()V"⟩
abbrev cX8_advance : ByteArray := prog_10_method_62_code
def yX8_advance : MethodName := ⟨RX8, "advance", "(I)I"⟩
abbrev cX8_flushes : ByteArray := prog_10_method_63_code
def yX8_flushes : MethodName := ⟨RX8, "flushes", "(I)I"⟩
abbrev cX8_flush : ByteArray := prog_10_method_64_code
def yX8_flush : MethodName := ⟨RX8, "flush", "()I"⟩
abbrev cX8_flushDevice : ByteArray := prog_10_method_65_code
def yX8_flushDevice : MethodName := ⟨RX8, "flushDevice", "(I)I"⟩
abbrev cX8_greater : ByteArray := prog_10_method_66_code
def yX8_greater : MethodName := ⟨RX8, "greater", "(JJ)J"⟩
abbrev cX8_merges : ByteArray := prog_10_method_67_code
def yX8_merges : MethodName := ⟨RX8, "merges", "()V"⟩
abbrev cX8_takesBlock : ByteArray := prog_10_method_68_code
def yX8_takesBlock : MethodName := ⟨RX8, "takesBlock", "(IZ)V"⟩
abbrev cX8_weighs : ByteArray := prog_10_method_69_code
def yX8_weighs : MethodName := ⟨RX8, "weighs", "(I)V"⟩
abbrev cX8_valueBy : ByteArray := prog_10_method_70_code
def yX8_valueBy : MethodName := ⟨RX8, "valueBy", "(I)I"⟩
abbrev cX8_leastOf : ByteArray := prog_10_method_71_code
def yX8_leastOf : MethodName := ⟨RX8, "leastOf", "(I)I"⟩
abbrev cX8_bestOf : ByteArray := prog_10_method_72_code
def yX8_bestOf : MethodName := ⟨RX8, "bestOf", "(I)I"⟩
abbrev cX8_valueWithin : ByteArray := prog_10_method_73_code
def yX8_valueWithin : MethodName := ⟨RX8, "valueWithin", "(II)I"⟩
abbrev cX8_need : ByteArray := prog_10_method_74_code
def yX8_need : MethodName := ⟨RX8, "need", "()I"⟩
abbrev cX8_isSet : ByteArray := prog_10_method_75_code
def yX8_isSet : MethodName := ⟨RX8, "isSet", "(I)Z"⟩
abbrev cX8_energyOf : ByteArray := prog_10_method_76_code
def yX8_energyOf : MethodName := ⟨RX8, "energyOf", "(I)I"⟩
abbrev cX8_valueOf : ByteArray := prog_10_method_77_code
def yX8_valueOf : MethodName := ⟨RX8, "valueOf", "(I)I"⟩
abbrev cX8_isEnergy : ByteArray := prog_10_method_78_code
def yX8_isEnergy : MethodName := ⟨RX8, "isEnergy", "(I)Z"⟩
abbrev cX8_bestSet : ByteArray := prog_10_method_79_code
def yX8_bestSet : MethodName := ⟨RX8, "bestSet", "(I)I"⟩
abbrev cX8_bestValue : ByteArray := prog_10_method_80_code
def yX8_bestValue : MethodName := ⟨RX8, "bestValue", "(I)I"⟩
abbrev cX8_greedyOf : ByteArray := prog_10_method_81_code
def yX8_greedyOf : MethodName := ⟨RX8, "greedyOf", "(I)I"⟩
abbrev cX8_greedySet : ByteArray := prog_10_method_82_code
def yX8_greedySet : MethodName := ⟨RX8, "greedySet", "(I)I"⟩
abbrev cX8_quality : ByteArray := prog_10_method_83_code
def yX8_quality : MethodName := ⟨RX8, "quality", "(I)D"⟩
abbrev cX8_energyFor : ByteArray := prog_10_method_84_code
def yX8_energyFor : MethodName := ⟨RX8, "energyFor", "(I)I"⟩
abbrev cX8_extra : ByteArray := prog_10_method_85_code
def yX8_extra : MethodName := ⟨RX8, "extra", "(I)I"⟩
abbrev cX8_keeps : ByteArray := prog_10_method_86_code
def yX8_keeps : MethodName := ⟨RX8, "keeps", "()V"⟩
abbrev cX8_comesBack : ByteArray := prog_10_method_87_code
def yX8_comesBack : MethodName := ⟨RX8, "comesBack", "()V"⟩
abbrev cX8_minutesLeft : ByteArray := prog_10_method_88_code
def yX8_minutesLeft : MethodName := ⟨RX8, "minutesLeft", "()I"⟩
abbrev cX8_valueAfter : ByteArray := prog_10_method_89_code
def yX8_valueAfter : MethodName := ⟨RX8, "valueAfter", "(I)I"⟩
abbrev cX8_minutesToSafety : ByteArray := prog_10_method_90_code
def yX8_minutesToSafety : MethodName := ⟨RX8, "minutesToSafety", "()I"⟩
abbrev cX8_gainOfRepair : ByteArray := prog_10_method_91_code
def yX8_gainOfRepair : MethodName := ⟨RX8, "gainOfRepair", "(I)I"⟩
abbrev cX8_costliest : ByteArray := prog_10_method_92_code
def yX8_costliest : MethodName := ⟨RX8, "costliest", "()I"⟩
abbrev cX8_save : ByteArray := prog_10_method_93_code
def yX8_save : MethodName := ⟨RX8, "save", "(I)V"⟩
abbrev cX8_restore : ByteArray := prog_10_method_94_code
def yX8_restore : MethodName := ⟨RX8, "restore", "(I)V"⟩
def RJx145de : String := "java/io/Serializable"
def TJx145de : u_T := fun k => match k with
  | _ => ("", "", "", false)
def tyJx145de : Nat → FieldType := fun k => match k with
  | _ => .int
theorem nmJx145de : ∀ a, a < 0 → ∀ b, b < 0 → a ≠ b → (TJx145de a).2.1 ≠ (TJx145de b).2.1 := by decide +kernel
theorem tyJx145de_ok : ∀ k, k < 0 → parseFieldDescriptor (TJx145de k).2.2.1 = some (tyJx145de k) := by decide +kernel
def RJx9f9b0 : String := "java/lang/CharSequence"
def TJx9f9b0 : u_T := fun k => match k with
  | _ => ("", "", "", false)
def tyJx9f9b0 : Nat → FieldType := fun k => match k with
  | _ => .int
theorem nmJx9f9b0 : ∀ a, a < 0 → ∀ b, b < 0 → a ≠ b → (TJx9f9b0 a).2.1 ≠ (TJx9f9b0 b).2.1 := by decide +kernel
theorem tyJx9f9b0_ok : ∀ k, k < 0 → parseFieldDescriptor (TJx9f9b0 k).2.2.1 = some (tyJx9f9b0 k) := by decide +kernel
def RJxb160c : String := "java/lang/Comparable"
def TJxb160c : u_T := fun k => match k with
  | _ => ("", "", "", false)
def tyJxb160c : Nat → FieldType := fun k => match k with
  | _ => .int
theorem nmJxb160c : ∀ a, a < 0 → ∀ b, b < 0 → a ≠ b → (TJxb160c a).2.1 ≠ (TJxb160c b).2.1 := by decide +kernel
theorem tyJxb160c_ok : ∀ k, k < 0 → parseFieldDescriptor (TJxb160c k).2.2.1 = some (tyJxb160c k) := by decide +kernel
def RJ6 : String := "java/lang/Integer"
def TJ6 : u_T := fun k => match k with
  | _ => ("", "", "", false)
def tyJ6 : Nat → FieldType := fun k => match k with
  | _ => .int
theorem nmJ6 : ∀ a, a < 0 → ∀ b, b < 0 → a ≠ b → (TJ6 a).2.1 ≠ (TJ6 b).2.1 := by decide +kernel
theorem tyJ6_ok : ∀ k, k < 0 → parseFieldDescriptor (TJ6 k).2.2.1 = some (tyJ6 k) := by decide +kernel
abbrev cJ6_bitCount_0f7a4 : ByteArray := prog_18_method_49_code
def yJ6_bitCount_0f7a4 : MethodName := ⟨RJ6, "bitCount", "(I)I"⟩
def RJ9 : String := "java/lang/Math"
def TJ9 : u_T := fun k => match k with
  | _ => ("", "", "", false)
def tyJ9 : Nat → FieldType := fun k => match k with
  | _ => .int
theorem nmJ9 : ∀ a, a < 0 → ∀ b, b < 0 → a ≠ b → (TJ9 a).2.1 ≠ (TJ9 b).2.1 := by decide +kernel
theorem tyJ9_ok : ∀ k, k < 0 → parseFieldDescriptor (TJ9 k).2.2.1 = some (tyJ9 k) := by decide +kernel
abbrev cJ9_max_7cf53 : ByteArray := prog_19_method_65_code
def yJ9_max_7cf53 : MethodName := ⟨RJ9, "max", "(II)I"⟩
abbrev cJ9_max_f86c9 : ByteArray := prog_19_method_66_code
def yJ9_max_f86c9 : MethodName := ⟨RJ9, "max", "(JJ)J"⟩
abbrev cJ9_min_7cf53 : ByteArray := prog_19_method_69_code
def yJ9_min_7cf53 : MethodName := ⟨RJ9, "min", "(II)I"⟩
def RJ0 : String := "java/lang/String"
def TJ0 : u_T := fun k => match k with
  | _ => ("", "", "", false)
def tyJ0 : Nat → FieldType := fun k => match k with
  | _ => .int
theorem nmJ0 : ∀ a, a < 0 → ∀ b, b < 0 → a ≠ b → (TJ0 a).2.1 ≠ (TJ0 b).2.1 := by decide +kernel
theorem tyJ0_ok : ∀ k, k < 0 → parseFieldDescriptor (TJ0 k).2.2.1 = some (tyJ0 k) := by decide +kernel
abbrev cJ0_length_8abf5 : ByteArray := prog_21_method_54_code
def yJ0_length_8abf5 : MethodName := ⟨RJ0, "length", "()I"⟩
abbrev cJ0_charAt_5068e : ByteArray := prog_21_method_56_code
def yJ0_charAt_5068e : MethodName := ⟨RJ0, "charAt", "(I)C"⟩
abbrev cJ0_coder_7d493 : ByteArray := prog_21_method_152_code
def yJ0_coder_7d493 : MethodName := ⟨RJ0, "coder", "()B"⟩
abbrev cJ0_isLatin1_aae02 : ByteArray := prog_21_method_154_code
def yJ0_isLatin1_aae02 : MethodName := ⟨RJ0, "isLatin1", "()Z"⟩
abbrev cJ0_checkIndex_df160 : ByteArray := prog_21_method_155_code
def yJ0_checkIndex_df160 : MethodName := ⟨RJ0, "checkIndex", "(II)V"⟩
def RJ1 : String := "java/lang/StringLatin1"
def TJ1 : u_T := fun k => match k with
  | _ => ("", "", "", false)
def tyJ1 : Nat → FieldType := fun k => match k with
  | _ => .int
theorem nmJ1 : ∀ a, a < 0 → ∀ b, b < 0 → a ≠ b → (TJ1 a).2.1 ≠ (TJ1 b).2.1 := by decide +kernel
theorem tyJ1_ok : ∀ k, k < 0 → parseFieldDescriptor (TJ1 k).2.2.1 = some (tyJ1 k) := by decide +kernel
abbrev cJ1_charAt_3b067 : ByteArray := prog_22_method_2_code
def yJ1_charAt_3b067 : MethodName := ⟨RJ1, "charAt", "([BI)C"⟩
def RJ2 : String := "java/lang/StringUTF16"
def TJ2 : u_T := fun k => match k with
  | _ => ("", "", "", false)
def tyJ2 : Nat → FieldType := fun k => match k with
  | _ => .int
theorem nmJ2 : ∀ a, a < 0 → ∀ b, b < 0 → a ≠ b → (TJ2 a).2.1 ≠ (TJ2 b).2.1 := by decide +kernel
theorem tyJ2_ok : ∀ k, k < 0 → parseFieldDescriptor (TJ2 k).2.2.1 = some (tyJ2 k) := by decide +kernel
abbrev cJ2_getChar_3b067 : ByteArray := prog_23_method_5_code
def yJ2_getChar_3b067 : MethodName := ⟨RJ2, "getChar", "([BI)C"⟩
abbrev cJ2_length_9d52b : ByteArray := prog_23_method_6_code
def yJ2_length_9d52b : MethodName := ⟨RJ2, "length", "([B)I"⟩
abbrev cJ2_charAt_3b067 : ByteArray := prog_23_method_83_code
def yJ2_charAt_3b067 : MethodName := ⟨RJ2, "charAt", "([BI)C"⟩
abbrev cJ2_checkIndex_2214a : ByteArray := prog_23_method_91_code
def yJ2_checkIndex_2214a : MethodName := ⟨RJ2, "checkIndex", "(I[B)V"⟩
def RJ10 : String := "java/lang/System"
def TJ10 : u_T := fun k => match k with
  | _ => ("", "", "", false)
def tyJ10 : Nat → FieldType := fun k => match k with
  | _ => .int
theorem nmJ10 : ∀ a, a < 0 → ∀ b, b < 0 → a ≠ b → (TJ10 a).2.1 ≠ (TJ10 b).2.1 := by decide +kernel
theorem tyJ10_ok : ∀ k, k < 0 → parseFieldDescriptor (TJ10 k).2.2.1 = some (tyJ10 k) := by decide +kernel
def RJxfd54e : String := "java/lang/constant/Constable"
def TJxfd54e : u_T := fun k => match k with
  | _ => ("", "", "", false)
def tyJxfd54e : Nat → FieldType := fun k => match k with
  | _ => .int
theorem nmJxfd54e : ∀ a, a < 0 → ∀ b, b < 0 → a ≠ b → (TJxfd54e a).2.1 ≠ (TJxfd54e b).2.1 := by decide +kernel
theorem tyJxfd54e_ok : ∀ k, k < 0 → parseFieldDescriptor (TJxfd54e k).2.2.1 = some (tyJxfd54e k) := by decide +kernel
def RJx3cf43 : String := "java/lang/constant/ConstantDesc"
def TJx3cf43 : u_T := fun k => match k with
  | _ => ("", "", "", false)
def tyJx3cf43 : Nat → FieldType := fun k => match k with
  | _ => .int
theorem nmJx3cf43 : ∀ a, a < 0 → ∀ b, b < 0 → a ≠ b → (TJx3cf43 a).2.1 ≠ (TJx3cf43 b).2.1 := by decide +kernel
theorem tyJx3cf43_ok : ∀ k, k < 0 → parseFieldDescriptor (TJx3cf43 k).2.2.1 = some (tyJx3cf43 k) := by decide +kernel
def RJ7 : String := "java/util/Arrays"
def TJ7 : u_T := fun k => match k with
  | _ => ("", "", "", false)
def tyJ7 : Nat → FieldType := fun k => match k with
  | _ => .int
theorem nmJ7 : ∀ a, a < 0 → ∀ b, b < 0 → a ≠ b → (TJ7 a).2.1 ≠ (TJ7 b).2.1 := by decide +kernel
theorem tyJ7_ok : ∀ k, k < 0 → parseFieldDescriptor (TJ7 k).2.2.1 = some (tyJ7 k) := by decide +kernel
abbrev cJ7_fill_d0a16 : ByteArray := prog_28_method_101_code
def yJ7_fill_d0a16 : MethodName := ⟨RJ7, "fill", "([JJ)V"⟩
def RJ3 : String := "jdk/internal/util/Preconditions"
def TJ3 : u_T := fun k => match k with
  | _ => ("", "", "", false)
def tyJ3 : Nat → FieldType := fun k => match k with
  | _ => .int
theorem nmJ3 : ∀ a, a < 0 → ∀ b, b < 0 → a ≠ b → (TJ3 a).2.1 ≠ (TJ3 b).2.1 := by decide +kernel
theorem tyJ3_ok : ∀ k, k < 0 → parseFieldDescriptor (TJ3 k).2.2.1 = some (tyJ3 k) := by decide +kernel
abbrev cJ3_checkIndex_8e157 : ByteArray := prog_30_method_11_code
def yJ3_checkIndex_8e157 : MethodName := ⟨RJ3, "checkIndex", "(IILjava/util/function/BiFunction;)I"⟩
def RL : String := "FlushPlannerLaw"
abbrev cL_append : ByteArray := method_3_code
def yL_append : MethodName := ⟨RL, "append", "(LFlushPlanner;IIIII[J)I"⟩
abbrev cL_truncate : ByteArray := method_4_code
def yL_truncate : MethodName := ⟨RL, "truncate", "(LFlushPlanner;I[J)I"⟩
abbrev cL_load : ByteArray := method_5_code
def yL_load : MethodName := ⟨RL, "load", "(LFlushPlanner;[J)I"⟩
abbrev cL_report : ByteArray := method_6_code
def yL_report : MethodName := ⟨RL, "report", "(LFlushPlanner;I[J)I"⟩
abbrev cL_device : ByteArray := method_7_code
def yL_device : MethodName := ⟨RL, "device", "(LFlushPlanner;II[J)I"⟩
abbrev cL_block : ByteArray := method_8_code
def yL_block : MethodName := ⟨RL, "block", "(LFlushPlanner;II[J)I"⟩
abbrev cL_find : ByteArray := method_9_code
def yL_find : MethodName := ⟨RL, "find", "(LFlushPlanner;II[J)I"⟩
abbrev cL_oldest : ByteArray := method_10_code
def yL_oldest : MethodName := ⟨RL, "oldest", "(LFlushPlanner;[J)I"⟩
abbrev cL_total : ByteArray := method_11_code
def yL_total : MethodName := ⟨RL, "total", "(LFlushPlanner;I[J)I"⟩
abbrev cL_write : ByteArray := method_12_code
def yL_write : MethodName := ⟨RL, "write", "(LFlushPlanner;III[J)I"⟩
abbrev cL_wouldCache : ByteArray := method_13_code
def yL_wouldCache : MethodName := ⟨RL, "wouldCache", "(LFlushPlanner;III[J)I"⟩
abbrev cL_clean : ByteArray := method_14_code
def yL_clean : MethodName := ⟨RL, "clean", "(LFlushPlanner;I[J)I"⟩
abbrev cL_setFailed : ByteArray := method_15_code
def yL_setFailed : MethodName := ⟨RL, "setFailed", "(LFlushPlanner;IZ[J)I"⟩
abbrev cL_setMode : ByteArray := method_16_code
def yL_setMode : MethodName := ⟨RL, "setMode", "(LFlushPlanner;II[J)I"⟩
abbrev cL_advance : ByteArray := method_17_code
def yL_advance : MethodName := ⟨RL, "advance", "(LFlushPlanner;I[J)I"⟩
abbrev cL_flush : ByteArray := method_18_code
def yL_flush : MethodName := ⟨RL, "flush", "(LFlushPlanner;[J)I"⟩
abbrev cL_flushDevice : ByteArray := method_19_code
def yL_flushDevice : MethodName := ⟨RL, "flushDevice", "(LFlushPlanner;I[J)I"⟩
abbrev cL_energyOf : ByteArray := method_20_code
def yL_energyOf : MethodName := ⟨RL, "energyOf", "(LFlushPlanner;I[J)I"⟩
abbrev cL_valueOf : ByteArray := method_21_code
def yL_valueOf : MethodName := ⟨RL, "valueOf", "(LFlushPlanner;I[J)I"⟩
abbrev cL_bestSet : ByteArray := method_22_code
def yL_bestSet : MethodName := ⟨RL, "bestSet", "(LFlushPlanner;I[J)I"⟩
abbrev cL_bestValue : ByteArray := method_23_code
def yL_bestValue : MethodName := ⟨RL, "bestValue", "(LFlushPlanner;I[J)I"⟩
abbrev cL_greedySet : ByteArray := method_24_code
def yL_greedySet : MethodName := ⟨RL, "greedySet", "(LFlushPlanner;I[J)I"⟩
abbrev cL_quality : ByteArray := method_25_code
def yL_quality : MethodName := ⟨RL, "quality", "(LFlushPlanner;I[D)I"⟩
abbrev cL_energyFor : ByteArray := method_26_code
def yL_energyFor : MethodName := ⟨RL, "energyFor", "(LFlushPlanner;I[J)I"⟩
abbrev cL_extra : ByteArray := method_27_code
def yL_extra : MethodName := ⟨RL, "extra", "(LFlushPlanner;I[J)I"⟩
abbrev cL_valueAfter : ByteArray := method_28_code
def yL_valueAfter : MethodName := ⟨RL, "valueAfter", "(LFlushPlanner;I[J)I"⟩
abbrev cL_gainOfRepair : ByteArray := method_29_code
def yL_gainOfRepair : MethodName := ⟨RL, "gainOfRepair", "(LFlushPlanner;I[J)I"⟩
abbrev cL_costliest : ByteArray := method_30_code
def yL_costliest : MethodName := ⟨RL, "costliest", "(LFlushPlanner;[J)I"⟩
abbrev cL_save : ByteArray := method_31_code
def yL_save : MethodName := ⟨RL, "save", "(LFlushPlanner;I)I"⟩
abbrev cL_restore : ByteArray := method_32_code
def yL_restore : MethodName := ⟨RL, "restore", "(LFlushPlanner;I)I"⟩
abbrev cL_law : ByteArray := code
def yL_law : MethodName := ⟨RL, "law", "([I)Z"⟩
abbrev vwCl : List vw_C := [(RX0, TX0, 6), (RX1, TX1, 5), (RX2, TX2, 5), (RX3, TX3, 4), (RX4, TX4, 3), (RX5, TX5, 7), (RX6, TX6, 7), (RX7, TX7, 10), (RX8, TX8, 18)]
end
section
/-! decoded instructions: what stands at pc, and where the next one is; a jump with its target -/
def uD (n : Nat) (cc : ByteArray) (pc : Nat) (i : Instr) (pc' : Nat) : Prop := decode cc pc = .ok (i, n) ∧ pc + n = pc'
def uJ (cc : ByteArray) (pc : Nat) (i : Int → Instr) (tgt pc' : Nat) : Prop := ∃ off : Int, decode cc pc = .ok (i off, 3) ∧ (pc : Int) + off = (tgt : Int) ∧ pc + 3 = pc'
end
section
theorem dX0_init_0 : uD 1 cX0_init 0 (.aload_n 0) 1 := ⟨by decide +kernel, rfl⟩
theorem dX0_init_1 : uD 3 cX0_init 1 (.invokespecial 1) 4 := ⟨by decide +kernel, rfl⟩
theorem dX0_init_4 : uD 1 cX0_init 4 (.aload_n 0) 5 := ⟨by decide +kernel, rfl⟩
theorem dX0_init_5 : uD 1 cX0_init 5 (.iconst 1) 6 := ⟨by decide +kernel, rfl⟩
theorem dX0_init_6 : uD 3 cX0_init 6 (.putfield 7) 9 := ⟨by decide +kernel, rfl⟩
theorem dX0_init_9 : uD 1 cX0_init 9 (.aload_n 0) 10 := ⟨by decide +kernel, rfl⟩
theorem dX0_init_10 : uD 1 cX0_init 10 (.iconst 0) 11 := ⟨by decide +kernel, rfl⟩
theorem dX0_init_11 : uD 3 cX0_init 11 (.putfield 13) 14 := ⟨by decide +kernel, rfl⟩
theorem dX0_init_14 : uD 1 cX0_init 14 (.aload_n 0) 15 := ⟨by decide +kernel, rfl⟩
theorem dX0_init_15 : uD 1 cX0_init 15 (.iconst 0) 16 := ⟨by decide +kernel, rfl⟩
theorem dX0_init_16 : uD 3 cX0_init 16 (.putfield 16) 19 := ⟨by decide +kernel, rfl⟩
theorem dX0_init_19 : uD 1 cX0_init 19 (.aload_n 0) 20 := ⟨by decide +kernel, rfl⟩
theorem dX0_init_20 : uD 1 cX0_init 20 (.iconst 1) 21 := ⟨by decide +kernel, rfl⟩
theorem dX0_init_21 : uD 3 cX0_init 21 (.putfield 19) 24 := ⟨by decide +kernel, rfl⟩
theorem dX0_init_24 : uD 1 cX0_init 24 (.aload_n 0) 25 := ⟨by decide +kernel, rfl⟩
theorem dX0_init_25 : uD 1 cX0_init 25 (.iconst 1) 26 := ⟨by decide +kernel, rfl⟩
theorem dX0_init_26 : uD 3 cX0_init 26 (.putfield 22) 29 := ⟨by decide +kernel, rfl⟩
theorem dX0_init_29 : uD 1 cX0_init 29 (.aload_n 0) 30 := ⟨by decide +kernel, rfl⟩
theorem dX0_init_30 : uD 1 cX0_init 30 (.iconst 0) 31 := ⟨by decide +kernel, rfl⟩
theorem dX0_init_31 : uD 3 cX0_init 31 (.putfield 25) 34 := ⟨by decide +kernel, rfl⟩
theorem dX0_init_34 : uD 1 cX0_init 34 (.return_) 35 := ⟨by decide +kernel, rfl⟩
theorem dX0_copyFrom_0 : uD 1 cX0_copyFrom 0 (.aload_n 0) 1 := ⟨by decide +kernel, rfl⟩
theorem dX0_copyFrom_1 : uD 1 cX0_copyFrom 1 (.aload_n 1) 2 := ⟨by decide +kernel, rfl⟩
theorem dX0_copyFrom_2 : uD 3 cX0_copyFrom 2 (.getfield 7) 5 := ⟨by decide +kernel, rfl⟩
theorem dX0_copyFrom_5 : uD 3 cX0_copyFrom 5 (.putfield 7) 8 := ⟨by decide +kernel, rfl⟩
theorem dX0_copyFrom_8 : uD 1 cX0_copyFrom 8 (.aload_n 0) 9 := ⟨by decide +kernel, rfl⟩
theorem dX0_copyFrom_9 : uD 1 cX0_copyFrom 9 (.aload_n 1) 10 := ⟨by decide +kernel, rfl⟩
theorem dX0_copyFrom_10 : uD 3 cX0_copyFrom 10 (.getfield 13) 13 := ⟨by decide +kernel, rfl⟩
theorem dX0_copyFrom_13 : uD 3 cX0_copyFrom 13 (.putfield 13) 16 := ⟨by decide +kernel, rfl⟩
theorem dX0_copyFrom_16 : uD 1 cX0_copyFrom 16 (.aload_n 0) 17 := ⟨by decide +kernel, rfl⟩
theorem dX0_copyFrom_17 : uD 1 cX0_copyFrom 17 (.aload_n 1) 18 := ⟨by decide +kernel, rfl⟩
theorem dX0_copyFrom_18 : uD 3 cX0_copyFrom 18 (.getfield 16) 21 := ⟨by decide +kernel, rfl⟩
theorem dX0_copyFrom_21 : uD 3 cX0_copyFrom 21 (.putfield 16) 24 := ⟨by decide +kernel, rfl⟩
theorem dX0_copyFrom_24 : uD 1 cX0_copyFrom 24 (.aload_n 0) 25 := ⟨by decide +kernel, rfl⟩
theorem dX0_copyFrom_25 : uD 1 cX0_copyFrom 25 (.aload_n 1) 26 := ⟨by decide +kernel, rfl⟩
theorem dX0_copyFrom_26 : uD 3 cX0_copyFrom 26 (.getfield 19) 29 := ⟨by decide +kernel, rfl⟩
theorem dX0_copyFrom_29 : uD 3 cX0_copyFrom 29 (.putfield 19) 32 := ⟨by decide +kernel, rfl⟩
theorem dX0_copyFrom_32 : uD 1 cX0_copyFrom 32 (.aload_n 0) 33 := ⟨by decide +kernel, rfl⟩
theorem dX0_copyFrom_33 : uD 1 cX0_copyFrom 33 (.aload_n 1) 34 := ⟨by decide +kernel, rfl⟩
theorem dX0_copyFrom_34 : uD 3 cX0_copyFrom 34 (.getfield 22) 37 := ⟨by decide +kernel, rfl⟩
theorem dX0_copyFrom_37 : uD 3 cX0_copyFrom 37 (.putfield 22) 40 := ⟨by decide +kernel, rfl⟩
theorem dX0_copyFrom_40 : uD 1 cX0_copyFrom 40 (.aload_n 0) 41 := ⟨by decide +kernel, rfl⟩
theorem dX0_copyFrom_41 : uD 1 cX0_copyFrom 41 (.aload_n 1) 42 := ⟨by decide +kernel, rfl⟩
theorem dX0_copyFrom_42 : uD 3 cX0_copyFrom 42 (.getfield 25) 45 := ⟨by decide +kernel, rfl⟩
theorem dX0_copyFrom_45 : uD 3 cX0_copyFrom 45 (.putfield 25) 48 := ⟨by decide +kernel, rfl⟩
theorem dX0_copyFrom_48 : uD 1 cX0_copyFrom 48 (.return_) 49 := ⟨by decide +kernel, rfl⟩
theorem dX0_chargeForMinute_0 : uD 1 cX0_chargeForMinute 0 (.aload_n 0) 1 := ⟨by decide +kernel, rfl⟩
theorem dX0_chargeForMinute_1 : uD 1 cX0_chargeForMinute 1 (.aload_n 0) 2 := ⟨by decide +kernel, rfl⟩
theorem dX0_chargeForMinute_2 : uD 3 cX0_chargeForMinute 2 (.getfield 13) 5 := ⟨by decide +kernel, rfl⟩
theorem dX0_chargeForMinute_5 : uD 1 cX0_chargeForMinute 5 (.aload_n 0) 6 := ⟨by decide +kernel, rfl⟩
theorem dX0_chargeForMinute_6 : uD 3 cX0_chargeForMinute 6 (.getfield 16) 9 := ⟨by decide +kernel, rfl⟩
theorem dX0_chargeForMinute_9 : uD 1 cX0_chargeForMinute 9 (.iadd) 10 := ⟨by decide +kernel, rfl⟩
theorem dX0_chargeForMinute_10 : uD 1 cX0_chargeForMinute 10 (.aload_n 0) 11 := ⟨by decide +kernel, rfl⟩
theorem dX0_chargeForMinute_11 : uD 3 cX0_chargeForMinute 11 (.getfield 7) 14 := ⟨by decide +kernel, rfl⟩
theorem dX0_chargeForMinute_14 : uD 3 cX0_chargeForMinute 14 (.invokestatic 28) 17 := ⟨by decide +kernel, rfl⟩
theorem dX0_chargeForMinute_17 : uD 3 cX0_chargeForMinute 17 (.putfield 13) 20 := ⟨by decide +kernel, rfl⟩
theorem dX0_chargeForMinute_20 : uD 1 cX0_chargeForMinute 20 (.return_) 21 := ⟨by decide +kernel, rfl⟩
theorem dX0_drainForMinute_0 : uD 1 cX0_drainForMinute 0 (.aload_n 0) 1 := ⟨by decide +kernel, rfl⟩
theorem dX0_drainForMinute_1 : uD 1 cX0_drainForMinute 1 (.aload_n 0) 2 := ⟨by decide +kernel, rfl⟩
theorem dX0_drainForMinute_2 : uD 3 cX0_drainForMinute 2 (.getfield 19) 5 := ⟨by decide +kernel, rfl⟩
theorem dX0_drainForMinute_5 : uD 1 cX0_drainForMinute 5 (.aload_n 0) 6 := ⟨by decide +kernel, rfl⟩
theorem dX0_drainForMinute_6 : uD 3 cX0_drainForMinute 6 (.getfield 13) 9 := ⟨by decide +kernel, rfl⟩
theorem dX0_drainForMinute_9 : uD 3 cX0_drainForMinute 9 (.invokestatic 28) 12 := ⟨by decide +kernel, rfl⟩
theorem dX0_drainForMinute_12 : uD 3 cX0_drainForMinute 12 (.invokevirtual 34) 15 := ⟨by decide +kernel, rfl⟩
theorem dX0_drainForMinute_15 : uD 1 cX0_drainForMinute 15 (.return_) 16 := ⟨by decide +kernel, rfl⟩
theorem dX0_spend_0 : uD 1 cX0_spend 0 (.aload_n 0) 1 := ⟨by decide +kernel, rfl⟩
theorem dX0_spend_1 : uD 3 cX0_spend 1 (.invokevirtual 38) 4 := ⟨by decide +kernel, rfl⟩
theorem dX0_spend_4 : uD 1 cX0_spend 4 (.istore_n 2) 5 := ⟨by decide +kernel, rfl⟩
theorem dX0_spend_5 : uD 1 cX0_spend 5 (.aload_n 0) 6 := ⟨by decide +kernel, rfl⟩
theorem dX0_spend_6 : uD 1 cX0_spend 6 (.dup) 7 := ⟨by decide +kernel, rfl⟩
theorem dX0_spend_7 : uD 3 cX0_spend 7 (.getfield 13) 10 := ⟨by decide +kernel, rfl⟩
theorem dX0_spend_10 : uD 1 cX0_spend 10 (.iload_n 1) 11 := ⟨by decide +kernel, rfl⟩
theorem dX0_spend_11 : uD 1 cX0_spend 11 (.isub) 12 := ⟨by decide +kernel, rfl⟩
theorem dX0_spend_12 : uD 3 cX0_spend 12 (.putfield 13) 15 := ⟨by decide +kernel, rfl⟩
theorem dX0_spend_15 : uD 1 cX0_spend 15 (.aload_n 0) 16 := ⟨by decide +kernel, rfl⟩
theorem dX0_spend_16 : uD 1 cX0_spend 16 (.dup) 17 := ⟨by decide +kernel, rfl⟩
theorem dX0_spend_17 : uD 3 cX0_spend 17 (.getfield 25) 20 := ⟨by decide +kernel, rfl⟩
theorem dX0_spend_20 : uD 1 cX0_spend 20 (.iload_n 1) 21 := ⟨by decide +kernel, rfl⟩
theorem dX0_spend_21 : uD 1 cX0_spend 21 (.iadd) 22 := ⟨by decide +kernel, rfl⟩
theorem dX0_spend_22 : uD 3 cX0_spend 22 (.putfield 25) 25 := ⟨by decide +kernel, rfl⟩
theorem dX0_spend_25 : uD 1 cX0_spend 25 (.aload_n 0) 26 := ⟨by decide +kernel, rfl⟩
theorem dX0_spend_26 : uD 1 cX0_spend 26 (.iconst 1) 27 := ⟨by decide +kernel, rfl⟩
theorem dX0_spend_27 : uD 1 cX0_spend 27 (.aload_n 0) 28 := ⟨by decide +kernel, rfl⟩
theorem dX0_spend_28 : uD 3 cX0_spend 28 (.getfield 7) 31 := ⟨by decide +kernel, rfl⟩
theorem dX0_spend_31 : uD 1 cX0_spend 31 (.aload_n 0) 32 := ⟨by decide +kernel, rfl⟩
theorem dX0_spend_32 : uD 3 cX0_spend 32 (.invokevirtual 38) 35 := ⟨by decide +kernel, rfl⟩
theorem dX0_spend_35 : uD 1 cX0_spend 35 (.iload_n 2) 36 := ⟨by decide +kernel, rfl⟩
theorem dX0_spend_36 : uD 1 cX0_spend 36 (.isub) 37 := ⟨by decide +kernel, rfl⟩
theorem dX0_spend_37 : uD 1 cX0_spend 37 (.isub) 38 := ⟨by decide +kernel, rfl⟩
theorem dX0_spend_38 : uD 3 cX0_spend 38 (.invokestatic 42) 41 := ⟨by decide +kernel, rfl⟩
theorem dX0_spend_41 : uD 3 cX0_spend 41 (.putfield 7) 44 := ⟨by decide +kernel, rfl⟩
theorem dX0_spend_44 : uD 1 cX0_spend 44 (.aload_n 0) 45 := ⟨by decide +kernel, rfl⟩
theorem dX0_spend_45 : uD 1 cX0_spend 45 (.aload_n 0) 46 := ⟨by decide +kernel, rfl⟩
theorem dX0_spend_46 : uD 3 cX0_spend 46 (.getfield 13) 49 := ⟨by decide +kernel, rfl⟩
theorem dX0_spend_49 : uD 1 cX0_spend 49 (.aload_n 0) 50 := ⟨by decide +kernel, rfl⟩
theorem dX0_spend_50 : uD 3 cX0_spend 50 (.getfield 7) 53 := ⟨by decide +kernel, rfl⟩
theorem dX0_spend_53 : uD 3 cX0_spend 53 (.invokestatic 28) 56 := ⟨by decide +kernel, rfl⟩
theorem dX0_spend_56 : uD 3 cX0_spend 56 (.putfield 13) 59 := ⟨by decide +kernel, rfl⟩
theorem dX0_spend_59 : uD 1 cX0_spend 59 (.return_) 60 := ⟨by decide +kernel, rfl⟩
theorem dX0_wornTimes_0 : uD 1 cX0_wornTimes 0 (.aload_n 0) 1 := ⟨by decide +kernel, rfl⟩
theorem dX0_wornTimes_1 : uD 3 cX0_wornTimes 1 (.getfield 22) 4 := ⟨by decide +kernel, rfl⟩
theorem dX0_wornTimes_4 : uJ cX0_wornTimes 4 (fun o => .ifCond .le o) 19 7 := ⟨15, by decide +kernel, by decide, rfl⟩
theorem dX0_wornTimes_7 : uD 1 cX0_wornTimes 7 (.aload_n 0) 8 := ⟨by decide +kernel, rfl⟩
theorem dX0_wornTimes_8 : uD 3 cX0_wornTimes 8 (.getfield 25) 11 := ⟨by decide +kernel, rfl⟩
theorem dX0_wornTimes_11 : uD 1 cX0_wornTimes 11 (.aload_n 0) 12 := ⟨by decide +kernel, rfl⟩
theorem dX0_wornTimes_12 : uD 3 cX0_wornTimes 12 (.getfield 22) 15 := ⟨by decide +kernel, rfl⟩
theorem dX0_wornTimes_15 : uD 1 cX0_wornTimes 15 (.idiv) 16 := ⟨by decide +kernel, rfl⟩
theorem dX0_wornTimes_16 : uJ cX0_wornTimes 16 (fun o => .goto o) 20 19 := ⟨4, by decide +kernel, by decide, rfl⟩
theorem dX0_wornTimes_19 : uD 1 cX0_wornTimes 19 (.iconst 0) 20 := ⟨by decide +kernel, rfl⟩
theorem dX0_wornTimes_20 : uD 1 cX0_wornTimes 20 (.ireturn) 21 := ⟨by decide +kernel, rfl⟩
theorem dX1_init_0 : uD 1 cX1_init 0 (.aload_n 0) 1 := ⟨by decide +kernel, rfl⟩
theorem dX1_init_1 : uD 3 cX1_init 1 (.invokespecial 3) 4 := ⟨by decide +kernel, rfl⟩
theorem dX1_init_4 : uD 1 cX1_init 4 (.aload_n 0) 5 := ⟨by decide +kernel, rfl⟩
theorem dX1_init_5 : uD 1 cX1_init 5 (.iconst 0) 6 := ⟨by decide +kernel, rfl⟩
theorem dX1_init_6 : uD 3 cX1_init 6 (.putfield 9) 9 := ⟨by decide +kernel, rfl⟩
theorem dX1_init_9 : uD 1 cX1_init 9 (.aload_n 0) 10 := ⟨by decide +kernel, rfl⟩
theorem dX1_init_10 : uD 2 cX1_init 10 (.bipush 24) 12 := ⟨by decide +kernel, rfl⟩
theorem dX1_init_12 : uD 2 cX1_init 12 (.newarray .int) 14 := ⟨by decide +kernel, rfl⟩
theorem dX1_init_14 : uD 3 cX1_init 14 (.putfield 15) 17 := ⟨by decide +kernel, rfl⟩
theorem dX1_init_17 : uD 1 cX1_init 17 (.aload_n 0) 18 := ⟨by decide +kernel, rfl⟩
theorem dX1_init_18 : uD 2 cX1_init 18 (.bipush 24) 20 := ⟨by decide +kernel, rfl⟩
theorem dX1_init_20 : uD 2 cX1_init 20 (.newarray .int) 22 := ⟨by decide +kernel, rfl⟩
theorem dX1_init_22 : uD 3 cX1_init 22 (.putfield 19) 25 := ⟨by decide +kernel, rfl⟩
theorem dX1_init_25 : uD 1 cX1_init 25 (.aload_n 0) 26 := ⟨by decide +kernel, rfl⟩
theorem dX1_init_26 : uD 2 cX1_init 26 (.bipush 24) 28 := ⟨by decide +kernel, rfl⟩
theorem dX1_init_28 : uD 2 cX1_init 28 (.newarray .int) 30 := ⟨by decide +kernel, rfl⟩
theorem dX1_init_30 : uD 3 cX1_init 30 (.putfield 22) 33 := ⟨by decide +kernel, rfl⟩
theorem dX1_init_33 : uD 1 cX1_init 33 (.aload_n 0) 34 := ⟨by decide +kernel, rfl⟩
theorem dX1_init_34 : uD 2 cX1_init 34 (.bipush 24) 36 := ⟨by decide +kernel, rfl⟩
theorem dX1_init_36 : uD 2 cX1_init 36 (.newarray .int) 38 := ⟨by decide +kernel, rfl⟩
theorem dX1_init_38 : uD 3 cX1_init 38 (.putfield 25) 41 := ⟨by decide +kernel, rfl⟩
theorem dX1_init_41 : uD 1 cX1_init 41 (.return_) 42 := ⟨by decide +kernel, rfl⟩
theorem dX1_copyFrom_0 : uD 1 cX1_copyFrom 0 (.aload_n 0) 1 := ⟨by decide +kernel, rfl⟩
theorem dX1_copyFrom_1 : uD 1 cX1_copyFrom 1 (.aload_n 1) 2 := ⟨by decide +kernel, rfl⟩
theorem dX1_copyFrom_2 : uD 3 cX1_copyFrom 2 (.getfield 9) 5 := ⟨by decide +kernel, rfl⟩
theorem dX1_copyFrom_5 : uD 3 cX1_copyFrom 5 (.putfield 9) 8 := ⟨by decide +kernel, rfl⟩
theorem dX1_copyFrom_8 : uD 1 cX1_copyFrom 8 (.iconst 0) 9 := ⟨by decide +kernel, rfl⟩
theorem dX1_copyFrom_9 : uD 1 cX1_copyFrom 9 (.istore_n 2) 10 := ⟨by decide +kernel, rfl⟩
theorem dX1_copyFrom_10 : uD 1 cX1_copyFrom 10 (.iload_n 2) 11 := ⟨by decide +kernel, rfl⟩
theorem dX1_copyFrom_11 : uD 1 cX1_copyFrom 11 (.aload_n 0) 12 := ⟨by decide +kernel, rfl⟩
theorem dX1_copyFrom_12 : uD 3 cX1_copyFrom 12 (.getfield 9) 15 := ⟨by decide +kernel, rfl⟩
theorem dX1_copyFrom_15 : uJ cX1_copyFrom 15 (fun o => .if_icmp .ge o) 31 18 := ⟨16, by decide +kernel, by decide, rfl⟩
theorem dX1_copyFrom_18 : uD 1 cX1_copyFrom 18 (.aload_n 0) 19 := ⟨by decide +kernel, rfl⟩
theorem dX1_copyFrom_19 : uD 1 cX1_copyFrom 19 (.aload_n 1) 20 := ⟨by decide +kernel, rfl⟩
theorem dX1_copyFrom_20 : uD 1 cX1_copyFrom 20 (.iload_n 2) 21 := ⟨by decide +kernel, rfl⟩
theorem dX1_copyFrom_21 : uD 1 cX1_copyFrom 21 (.iload_n 2) 22 := ⟨by decide +kernel, rfl⟩
theorem dX1_copyFrom_22 : uD 3 cX1_copyFrom 22 (.invokevirtual 28) 25 := ⟨by decide +kernel, rfl⟩
theorem dX1_copyFrom_25 : uD 3 cX1_copyFrom 25 (.iinc 2 1) 28 := ⟨by decide +kernel, rfl⟩
theorem dX1_copyFrom_28 : uJ cX1_copyFrom 28 (fun o => .goto o) 10 31 := ⟨(-18), by decide +kernel, by decide, rfl⟩
theorem dX1_copyFrom_31 : uD 1 cX1_copyFrom 31 (.return_) 32 := ⟨by decide +kernel, rfl⟩
theorem dX1_copyBlock_0 : uD 1 cX1_copyBlock 0 (.aload_n 0) 1 := ⟨by decide +kernel, rfl⟩
theorem dX1_copyBlock_1 : uD 3 cX1_copyBlock 1 (.getfield 15) 4 := ⟨by decide +kernel, rfl⟩
theorem dX1_copyBlock_4 : uD 1 cX1_copyBlock 4 (.iload_n 3) 5 := ⟨by decide +kernel, rfl⟩
theorem dX1_copyBlock_5 : uD 1 cX1_copyBlock 5 (.aload_n 1) 6 := ⟨by decide +kernel, rfl⟩
theorem dX1_copyBlock_6 : uD 3 cX1_copyBlock 6 (.getfield 15) 9 := ⟨by decide +kernel, rfl⟩
theorem dX1_copyBlock_9 : uD 1 cX1_copyBlock 9 (.iload_n 2) 10 := ⟨by decide +kernel, rfl⟩
theorem dX1_copyBlock_10 : uD 1 cX1_copyBlock 10 (.iaload) 11 := ⟨by decide +kernel, rfl⟩
theorem dX1_copyBlock_11 : uD 1 cX1_copyBlock 11 (.iastore) 12 := ⟨by decide +kernel, rfl⟩
theorem dX1_copyBlock_12 : uD 1 cX1_copyBlock 12 (.aload_n 0) 13 := ⟨by decide +kernel, rfl⟩
theorem dX1_copyBlock_13 : uD 3 cX1_copyBlock 13 (.getfield 19) 16 := ⟨by decide +kernel, rfl⟩
theorem dX1_copyBlock_16 : uD 1 cX1_copyBlock 16 (.iload_n 3) 17 := ⟨by decide +kernel, rfl⟩
theorem dX1_copyBlock_17 : uD 1 cX1_copyBlock 17 (.aload_n 1) 18 := ⟨by decide +kernel, rfl⟩
theorem dX1_copyBlock_18 : uD 3 cX1_copyBlock 18 (.getfield 19) 21 := ⟨by decide +kernel, rfl⟩
theorem dX1_copyBlock_21 : uD 1 cX1_copyBlock 21 (.iload_n 2) 22 := ⟨by decide +kernel, rfl⟩
theorem dX1_copyBlock_22 : uD 1 cX1_copyBlock 22 (.iaload) 23 := ⟨by decide +kernel, rfl⟩
theorem dX1_copyBlock_23 : uD 1 cX1_copyBlock 23 (.iastore) 24 := ⟨by decide +kernel, rfl⟩
theorem dX1_copyBlock_24 : uD 1 cX1_copyBlock 24 (.aload_n 0) 25 := ⟨by decide +kernel, rfl⟩
theorem dX1_copyBlock_25 : uD 3 cX1_copyBlock 25 (.getfield 22) 28 := ⟨by decide +kernel, rfl⟩
theorem dX1_copyBlock_28 : uD 1 cX1_copyBlock 28 (.iload_n 3) 29 := ⟨by decide +kernel, rfl⟩
theorem dX1_copyBlock_29 : uD 1 cX1_copyBlock 29 (.aload_n 1) 30 := ⟨by decide +kernel, rfl⟩
theorem dX1_copyBlock_30 : uD 3 cX1_copyBlock 30 (.getfield 22) 33 := ⟨by decide +kernel, rfl⟩
theorem dX1_copyBlock_33 : uD 1 cX1_copyBlock 33 (.iload_n 2) 34 := ⟨by decide +kernel, rfl⟩
theorem dX1_copyBlock_34 : uD 1 cX1_copyBlock 34 (.iaload) 35 := ⟨by decide +kernel, rfl⟩
theorem dX1_copyBlock_35 : uD 1 cX1_copyBlock 35 (.iastore) 36 := ⟨by decide +kernel, rfl⟩
theorem dX1_copyBlock_36 : uD 1 cX1_copyBlock 36 (.aload_n 0) 37 := ⟨by decide +kernel, rfl⟩
theorem dX1_copyBlock_37 : uD 3 cX1_copyBlock 37 (.getfield 25) 40 := ⟨by decide +kernel, rfl⟩
theorem dX1_copyBlock_40 : uD 1 cX1_copyBlock 40 (.iload_n 3) 41 := ⟨by decide +kernel, rfl⟩
theorem dX1_copyBlock_41 : uD 1 cX1_copyBlock 41 (.aload_n 1) 42 := ⟨by decide +kernel, rfl⟩
theorem dX1_copyBlock_42 : uD 3 cX1_copyBlock 42 (.getfield 25) 45 := ⟨by decide +kernel, rfl⟩
theorem dX1_copyBlock_45 : uD 1 cX1_copyBlock 45 (.iload_n 2) 46 := ⟨by decide +kernel, rfl⟩
theorem dX1_copyBlock_46 : uD 1 cX1_copyBlock 46 (.iaload) 47 := ⟨by decide +kernel, rfl⟩
theorem dX1_copyBlock_47 : uD 1 cX1_copyBlock 47 (.iastore) 48 := ⟨by decide +kernel, rfl⟩
theorem dX1_copyBlock_48 : uD 1 cX1_copyBlock 48 (.return_) 49 := ⟨by decide +kernel, rfl⟩
theorem dX1_allBlocks_0 : uD 1 cX1_allBlocks 0 (.iconst 1) 1 := ⟨by decide +kernel, rfl⟩
theorem dX1_allBlocks_1 : uD 1 cX1_allBlocks 1 (.aload_n 0) 2 := ⟨by decide +kernel, rfl⟩
theorem dX1_allBlocks_2 : uD 3 cX1_allBlocks 2 (.getfield 9) 5 := ⟨by decide +kernel, rfl⟩
theorem dX1_allBlocks_5 : uD 1 cX1_allBlocks 5 (.ishl) 6 := ⟨by decide +kernel, rfl⟩
theorem dX1_allBlocks_6 : uD 1 cX1_allBlocks 6 (.iconst 1) 7 := ⟨by decide +kernel, rfl⟩
theorem dX1_allBlocks_7 : uD 1 cX1_allBlocks 7 (.isub) 8 := ⟨by decide +kernel, rfl⟩
theorem dX1_allBlocks_8 : uD 1 cX1_allBlocks 8 (.ireturn) 9 := ⟨by decide +kernel, rfl⟩
theorem dX1_blocksOn_0 : uD 1 cX1_blocksOn 0 (.iconst 0) 1 := ⟨by decide +kernel, rfl⟩
theorem dX1_blocksOn_1 : uD 1 cX1_blocksOn 1 (.istore_n 2) 2 := ⟨by decide +kernel, rfl⟩
theorem dX1_blocksOn_2 : uD 1 cX1_blocksOn 2 (.iconst 0) 3 := ⟨by decide +kernel, rfl⟩
theorem dX1_blocksOn_3 : uD 1 cX1_blocksOn 3 (.istore_n 3) 4 := ⟨by decide +kernel, rfl⟩
theorem dX1_blocksOn_4 : uD 1 cX1_blocksOn 4 (.iload_n 3) 5 := ⟨by decide +kernel, rfl⟩
theorem dX1_blocksOn_5 : uD 1 cX1_blocksOn 5 (.aload_n 0) 6 := ⟨by decide +kernel, rfl⟩
theorem dX1_blocksOn_6 : uD 3 cX1_blocksOn 6 (.getfield 9) 9 := ⟨by decide +kernel, rfl⟩
theorem dX1_blocksOn_9 : uJ cX1_blocksOn 9 (fun o => .if_icmp .ge o) 34 12 := ⟨25, by decide +kernel, by decide, rfl⟩
theorem dX1_blocksOn_12 : uD 1 cX1_blocksOn 12 (.aload_n 0) 13 := ⟨by decide +kernel, rfl⟩
theorem dX1_blocksOn_13 : uD 3 cX1_blocksOn 13 (.getfield 15) 16 := ⟨by decide +kernel, rfl⟩
theorem dX1_blocksOn_16 : uD 1 cX1_blocksOn 16 (.iload_n 3) 17 := ⟨by decide +kernel, rfl⟩
theorem dX1_blocksOn_17 : uD 1 cX1_blocksOn 17 (.iaload) 18 := ⟨by decide +kernel, rfl⟩
theorem dX1_blocksOn_18 : uD 1 cX1_blocksOn 18 (.iload_n 1) 19 := ⟨by decide +kernel, rfl⟩
theorem dX1_blocksOn_19 : uJ cX1_blocksOn 19 (fun o => .if_icmp .ne o) 28 22 := ⟨9, by decide +kernel, by decide, rfl⟩
theorem dX1_blocksOn_22 : uD 1 cX1_blocksOn 22 (.iload_n 2) 23 := ⟨by decide +kernel, rfl⟩
theorem dX1_blocksOn_23 : uD 1 cX1_blocksOn 23 (.iconst 1) 24 := ⟨by decide +kernel, rfl⟩
theorem dX1_blocksOn_24 : uD 1 cX1_blocksOn 24 (.iload_n 3) 25 := ⟨by decide +kernel, rfl⟩
theorem dX1_blocksOn_25 : uD 1 cX1_blocksOn 25 (.ishl) 26 := ⟨by decide +kernel, rfl⟩
theorem dX1_blocksOn_26 : uD 1 cX1_blocksOn 26 (.ior) 27 := ⟨by decide +kernel, rfl⟩
theorem dX1_blocksOn_27 : uD 1 cX1_blocksOn 27 (.istore_n 2) 28 := ⟨by decide +kernel, rfl⟩
theorem dX1_blocksOn_28 : uD 3 cX1_blocksOn 28 (.iinc 3 1) 31 := ⟨by decide +kernel, rfl⟩
theorem dX1_blocksOn_31 : uJ cX1_blocksOn 31 (fun o => .goto o) 4 34 := ⟨(-27), by decide +kernel, by decide, rfl⟩
theorem dX1_blocksOn_34 : uD 1 cX1_blocksOn 34 (.iload_n 2) 35 := ⟨by decide +kernel, rfl⟩
theorem dX1_blocksOn_35 : uD 1 cX1_blocksOn 35 (.ireturn) 36 := ⟨by decide +kernel, rfl⟩
theorem dX1_valueIn_0 : uD 1 cX1_valueIn 0 (.iconst 0) 1 := ⟨by decide +kernel, rfl⟩
theorem dX1_valueIn_1 : uD 1 cX1_valueIn 1 (.istore_n 2) 2 := ⟨by decide +kernel, rfl⟩
theorem dX1_valueIn_2 : uD 1 cX1_valueIn 2 (.iconst 0) 3 := ⟨by decide +kernel, rfl⟩
theorem dX1_valueIn_3 : uD 1 cX1_valueIn 3 (.istore_n 3) 4 := ⟨by decide +kernel, rfl⟩
theorem dX1_valueIn_4 : uD 1 cX1_valueIn 4 (.iload_n 3) 5 := ⟨by decide +kernel, rfl⟩
theorem dX1_valueIn_5 : uD 1 cX1_valueIn 5 (.aload_n 0) 6 := ⟨by decide +kernel, rfl⟩
theorem dX1_valueIn_6 : uD 3 cX1_valueIn 6 (.getfield 9) 9 := ⟨by decide +kernel, rfl⟩
theorem dX1_valueIn_9 : uJ cX1_valueIn 9 (fun o => .if_icmp .ge o) 35 12 := ⟨26, by decide +kernel, by decide, rfl⟩
theorem dX1_valueIn_12 : uD 1 cX1_valueIn 12 (.iload_n 1) 13 := ⟨by decide +kernel, rfl⟩
theorem dX1_valueIn_13 : uD 1 cX1_valueIn 13 (.iload_n 3) 14 := ⟨by decide +kernel, rfl⟩
theorem dX1_valueIn_14 : uD 1 cX1_valueIn 14 (.ishr) 15 := ⟨by decide +kernel, rfl⟩
theorem dX1_valueIn_15 : uD 1 cX1_valueIn 15 (.iconst 1) 16 := ⟨by decide +kernel, rfl⟩
theorem dX1_valueIn_16 : uD 1 cX1_valueIn 16 (.iand) 17 := ⟨by decide +kernel, rfl⟩
theorem dX1_valueIn_17 : uJ cX1_valueIn 17 (fun o => .ifCond .eq o) 29 20 := ⟨12, by decide +kernel, by decide, rfl⟩
theorem dX1_valueIn_20 : uD 1 cX1_valueIn 20 (.iload_n 2) 21 := ⟨by decide +kernel, rfl⟩
theorem dX1_valueIn_21 : uD 1 cX1_valueIn 21 (.aload_n 0) 22 := ⟨by decide +kernel, rfl⟩
theorem dX1_valueIn_22 : uD 3 cX1_valueIn 22 (.getfield 22) 25 := ⟨by decide +kernel, rfl⟩
theorem dX1_valueIn_25 : uD 1 cX1_valueIn 25 (.iload_n 3) 26 := ⟨by decide +kernel, rfl⟩
theorem dX1_valueIn_26 : uD 1 cX1_valueIn 26 (.iaload) 27 := ⟨by decide +kernel, rfl⟩
theorem dX1_valueIn_27 : uD 1 cX1_valueIn 27 (.iadd) 28 := ⟨by decide +kernel, rfl⟩
theorem dX1_valueIn_28 : uD 1 cX1_valueIn 28 (.istore_n 2) 29 := ⟨by decide +kernel, rfl⟩
theorem dX1_valueIn_29 : uD 3 cX1_valueIn 29 (.iinc 3 1) 32 := ⟨by decide +kernel, rfl⟩
theorem dX1_valueIn_32 : uJ cX1_valueIn 32 (fun o => .goto o) 4 35 := ⟨(-28), by decide +kernel, by decide, rfl⟩
theorem dX1_valueIn_35 : uD 1 cX1_valueIn 35 (.iload_n 2) 36 := ⟨by decide +kernel, rfl⟩
theorem dX1_valueIn_36 : uD 1 cX1_valueIn 36 (.ireturn) 37 := ⟨by decide +kernel, rfl⟩
theorem dX1_isFollowedBy_0 : uD 1 cX1_isFollowedBy 0 (.aload_n 0) 1 := ⟨by decide +kernel, rfl⟩
theorem dX1_isFollowedBy_1 : uD 3 cX1_isFollowedBy 1 (.getfield 15) 4 := ⟨by decide +kernel, rfl⟩
theorem dX1_isFollowedBy_4 : uD 1 cX1_isFollowedBy 4 (.iload_n 1) 5 := ⟨by decide +kernel, rfl⟩
theorem dX1_isFollowedBy_5 : uD 1 cX1_isFollowedBy 5 (.iaload) 6 := ⟨by decide +kernel, rfl⟩
theorem dX1_isFollowedBy_6 : uD 1 cX1_isFollowedBy 6 (.aload_n 0) 7 := ⟨by decide +kernel, rfl⟩
theorem dX1_isFollowedBy_7 : uD 3 cX1_isFollowedBy 7 (.getfield 15) 10 := ⟨by decide +kernel, rfl⟩
theorem dX1_isFollowedBy_10 : uD 1 cX1_isFollowedBy 10 (.iload_n 2) 11 := ⟨by decide +kernel, rfl⟩
theorem dX1_isFollowedBy_11 : uD 1 cX1_isFollowedBy 11 (.iaload) 12 := ⟨by decide +kernel, rfl⟩
theorem dX1_isFollowedBy_12 : uJ cX1_isFollowedBy 12 (fun o => .if_icmp .ne o) 36 15 := ⟨24, by decide +kernel, by decide, rfl⟩
theorem dX1_isFollowedBy_15 : uD 1 cX1_isFollowedBy 15 (.aload_n 0) 16 := ⟨by decide +kernel, rfl⟩
theorem dX1_isFollowedBy_16 : uD 3 cX1_isFollowedBy 16 (.getfield 19) 19 := ⟨by decide +kernel, rfl⟩
theorem dX1_isFollowedBy_19 : uD 1 cX1_isFollowedBy 19 (.iload_n 1) 20 := ⟨by decide +kernel, rfl⟩
theorem dX1_isFollowedBy_20 : uD 1 cX1_isFollowedBy 20 (.iaload) 21 := ⟨by decide +kernel, rfl⟩
theorem dX1_isFollowedBy_21 : uD 1 cX1_isFollowedBy 21 (.iconst 1) 22 := ⟨by decide +kernel, rfl⟩
theorem dX1_isFollowedBy_22 : uD 1 cX1_isFollowedBy 22 (.iadd) 23 := ⟨by decide +kernel, rfl⟩
theorem dX1_isFollowedBy_23 : uD 1 cX1_isFollowedBy 23 (.aload_n 0) 24 := ⟨by decide +kernel, rfl⟩
theorem dX1_isFollowedBy_24 : uD 3 cX1_isFollowedBy 24 (.getfield 19) 27 := ⟨by decide +kernel, rfl⟩
theorem dX1_isFollowedBy_27 : uD 1 cX1_isFollowedBy 27 (.iload_n 2) 28 := ⟨by decide +kernel, rfl⟩
theorem dX1_isFollowedBy_28 : uD 1 cX1_isFollowedBy 28 (.iaload) 29 := ⟨by decide +kernel, rfl⟩
theorem dX1_isFollowedBy_29 : uJ cX1_isFollowedBy 29 (fun o => .if_icmp .ne o) 36 32 := ⟨7, by decide +kernel, by decide, rfl⟩
theorem dX1_isFollowedBy_32 : uD 1 cX1_isFollowedBy 32 (.iconst 1) 33 := ⟨by decide +kernel, rfl⟩
theorem dX1_isFollowedBy_33 : uJ cX1_isFollowedBy 33 (fun o => .goto o) 37 36 := ⟨4, by decide +kernel, by decide, rfl⟩
theorem dX1_isFollowedBy_36 : uD 1 cX1_isFollowedBy 36 (.iconst 0) 37 := ⟨by decide +kernel, rfl⟩
theorem dX1_isFollowedBy_37 : uD 1 cX1_isFollowedBy 37 (.ireturn) 38 := ⟨by decide +kernel, rfl⟩
theorem dX1_mostValuable_0 : uD 1 cX1_mostValuable 0 (.iconst 0) 1 := ⟨by decide +kernel, rfl⟩
theorem dX1_mostValuable_1 : uD 1 cX1_mostValuable 1 (.istore_n 2) 2 := ⟨by decide +kernel, rfl⟩
theorem dX1_mostValuable_2 : uD 1 cX1_mostValuable 2 (.iconst 0) 3 := ⟨by decide +kernel, rfl⟩
theorem dX1_mostValuable_3 : uD 1 cX1_mostValuable 3 (.istore_n 3) 4 := ⟨by decide +kernel, rfl⟩
theorem dX1_mostValuable_4 : uD 1 cX1_mostValuable 4 (.iconst 0) 5 := ⟨by decide +kernel, rfl⟩
theorem dX1_mostValuable_5 : uD 2 cX1_mostValuable 5 (.istore 4) 7 := ⟨by decide +kernel, rfl⟩
theorem dX1_mostValuable_7 : uD 2 cX1_mostValuable 7 (.iload 4) 9 := ⟨by decide +kernel, rfl⟩
theorem dX1_mostValuable_9 : uD 1 cX1_mostValuable 9 (.aload_n 0) 10 := ⟨by decide +kernel, rfl⟩
theorem dX1_mostValuable_10 : uD 3 cX1_mostValuable 10 (.getfield 9) 13 := ⟨by decide +kernel, rfl⟩
theorem dX1_mostValuable_13 : uJ cX1_mostValuable 13 (fun o => .if_icmp .ge o) 53 16 := ⟨40, by decide +kernel, by decide, rfl⟩
theorem dX1_mostValuable_16 : uD 1 cX1_mostValuable 16 (.iload_n 1) 17 := ⟨by decide +kernel, rfl⟩
theorem dX1_mostValuable_17 : uD 2 cX1_mostValuable 17 (.iload 4) 19 := ⟨by decide +kernel, rfl⟩
theorem dX1_mostValuable_19 : uD 1 cX1_mostValuable 19 (.ishr) 20 := ⟨by decide +kernel, rfl⟩
theorem dX1_mostValuable_20 : uD 1 cX1_mostValuable 20 (.iconst 1) 21 := ⟨by decide +kernel, rfl⟩
theorem dX1_mostValuable_21 : uD 1 cX1_mostValuable 21 (.iand) 22 := ⟨by decide +kernel, rfl⟩
theorem dX1_mostValuable_22 : uJ cX1_mostValuable 22 (fun o => .ifCond .eq o) 47 25 := ⟨25, by decide +kernel, by decide, rfl⟩
theorem dX1_mostValuable_25 : uD 1 cX1_mostValuable 25 (.aload_n 0) 26 := ⟨by decide +kernel, rfl⟩
theorem dX1_mostValuable_26 : uD 3 cX1_mostValuable 26 (.getfield 22) 29 := ⟨by decide +kernel, rfl⟩
theorem dX1_mostValuable_29 : uD 2 cX1_mostValuable 29 (.iload 4) 31 := ⟨by decide +kernel, rfl⟩
theorem dX1_mostValuable_31 : uD 1 cX1_mostValuable 31 (.iaload) 32 := ⟨by decide +kernel, rfl⟩
theorem dX1_mostValuable_32 : uD 1 cX1_mostValuable 32 (.iload_n 3) 33 := ⟨by decide +kernel, rfl⟩
theorem dX1_mostValuable_33 : uJ cX1_mostValuable 33 (fun o => .if_icmp .le o) 47 36 := ⟨14, by decide +kernel, by decide, rfl⟩
theorem dX1_mostValuable_36 : uD 2 cX1_mostValuable 36 (.iload 4) 38 := ⟨by decide +kernel, rfl⟩
theorem dX1_mostValuable_38 : uD 1 cX1_mostValuable 38 (.istore_n 2) 39 := ⟨by decide +kernel, rfl⟩
theorem dX1_mostValuable_39 : uD 1 cX1_mostValuable 39 (.aload_n 0) 40 := ⟨by decide +kernel, rfl⟩
theorem dX1_mostValuable_40 : uD 3 cX1_mostValuable 40 (.getfield 22) 43 := ⟨by decide +kernel, rfl⟩
theorem dX1_mostValuable_43 : uD 2 cX1_mostValuable 43 (.iload 4) 45 := ⟨by decide +kernel, rfl⟩
theorem dX1_mostValuable_45 : uD 1 cX1_mostValuable 45 (.iaload) 46 := ⟨by decide +kernel, rfl⟩
theorem dX1_mostValuable_46 : uD 1 cX1_mostValuable 46 (.istore_n 3) 47 := ⟨by decide +kernel, rfl⟩
theorem dX1_mostValuable_47 : uD 3 cX1_mostValuable 47 (.iinc 4 1) 50 := ⟨by decide +kernel, rfl⟩
theorem dX1_mostValuable_50 : uJ cX1_mostValuable 50 (fun o => .goto o) 7 53 := ⟨(-43), by decide +kernel, by decide, rfl⟩
theorem dX1_mostValuable_53 : uD 1 cX1_mostValuable 53 (.iload_n 2) 54 := ⟨by decide +kernel, rfl⟩
theorem dX1_mostValuable_54 : uD 1 cX1_mostValuable 54 (.ireturn) 55 := ⟨by decide +kernel, rfl⟩
theorem dX1_indexOf_0 : uD 1 cX1_indexOf 0 (.iconst 0) 1 := ⟨by decide +kernel, rfl⟩
theorem dX1_indexOf_1 : uD 1 cX1_indexOf 1 (.istore_n 3) 2 := ⟨by decide +kernel, rfl⟩
theorem dX1_indexOf_2 : uD 1 cX1_indexOf 2 (.iload_n 3) 3 := ⟨by decide +kernel, rfl⟩
theorem dX1_indexOf_3 : uD 1 cX1_indexOf 3 (.aload_n 0) 4 := ⟨by decide +kernel, rfl⟩
theorem dX1_indexOf_4 : uD 3 cX1_indexOf 4 (.getfield 9) 7 := ⟨by decide +kernel, rfl⟩
theorem dX1_indexOf_7 : uJ cX1_indexOf 7 (fun o => .if_icmp .ge o) 38 10 := ⟨31, by decide +kernel, by decide, rfl⟩
theorem dX1_indexOf_10 : uD 1 cX1_indexOf 10 (.aload_n 0) 11 := ⟨by decide +kernel, rfl⟩
theorem dX1_indexOf_11 : uD 3 cX1_indexOf 11 (.getfield 15) 14 := ⟨by decide +kernel, rfl⟩
theorem dX1_indexOf_14 : uD 1 cX1_indexOf 14 (.iload_n 3) 15 := ⟨by decide +kernel, rfl⟩
theorem dX1_indexOf_15 : uD 1 cX1_indexOf 15 (.iaload) 16 := ⟨by decide +kernel, rfl⟩
theorem dX1_indexOf_16 : uD 1 cX1_indexOf 16 (.iload_n 1) 17 := ⟨by decide +kernel, rfl⟩
theorem dX1_indexOf_17 : uJ cX1_indexOf 17 (fun o => .if_icmp .ne o) 32 20 := ⟨15, by decide +kernel, by decide, rfl⟩
theorem dX1_indexOf_20 : uD 1 cX1_indexOf 20 (.aload_n 0) 21 := ⟨by decide +kernel, rfl⟩
theorem dX1_indexOf_21 : uD 3 cX1_indexOf 21 (.getfield 19) 24 := ⟨by decide +kernel, rfl⟩
theorem dX1_indexOf_24 : uD 1 cX1_indexOf 24 (.iload_n 3) 25 := ⟨by decide +kernel, rfl⟩
theorem dX1_indexOf_25 : uD 1 cX1_indexOf 25 (.iaload) 26 := ⟨by decide +kernel, rfl⟩
theorem dX1_indexOf_26 : uD 1 cX1_indexOf 26 (.iload_n 2) 27 := ⟨by decide +kernel, rfl⟩
theorem dX1_indexOf_27 : uJ cX1_indexOf 27 (fun o => .if_icmp .ne o) 32 30 := ⟨5, by decide +kernel, by decide, rfl⟩
theorem dX1_indexOf_30 : uD 1 cX1_indexOf 30 (.iload_n 3) 31 := ⟨by decide +kernel, rfl⟩
theorem dX1_indexOf_31 : uD 1 cX1_indexOf 31 (.ireturn) 32 := ⟨by decide +kernel, rfl⟩
theorem dX1_indexOf_32 : uD 3 cX1_indexOf 32 (.iinc 3 1) 35 := ⟨by decide +kernel, rfl⟩
theorem dX1_indexOf_35 : uJ cX1_indexOf 35 (fun o => .goto o) 2 38 := ⟨(-33), by decide +kernel, by decide, rfl⟩
theorem dX1_indexOf_38 : uD 1 cX1_indexOf 38 (.iconst (-1)) 39 := ⟨by decide +kernel, rfl⟩
theorem dX1_indexOf_39 : uD 1 cX1_indexOf 39 (.ireturn) 40 := ⟨by decide +kernel, rfl⟩
theorem dX1_put_0 : uD 1 cX1_put 0 (.aload_n 0) 1 := ⟨by decide +kernel, rfl⟩
theorem dX1_put_1 : uD 1 cX1_put 1 (.iload_n 1) 2 := ⟨by decide +kernel, rfl⟩
theorem dX1_put_2 : uD 1 cX1_put 2 (.iload_n 2) 3 := ⟨by decide +kernel, rfl⟩
theorem dX1_put_3 : uD 3 cX1_put 3 (.invokevirtual 32) 6 := ⟨by decide +kernel, rfl⟩
theorem dX1_put_6 : uD 2 cX1_put 6 (.istore 5) 8 := ⟨by decide +kernel, rfl⟩
theorem dX1_put_8 : uD 2 cX1_put 8 (.iload 5) 10 := ⟨by decide +kernel, rfl⟩
theorem dX1_put_10 : uD 1 cX1_put 10 (.iconst (-1)) 11 := ⟨by decide +kernel, rfl⟩
theorem dX1_put_11 : uJ cX1_put 11 (fun o => .if_icmp .eq o) 23 14 := ⟨12, by decide +kernel, by decide, rfl⟩
theorem dX1_put_14 : uD 1 cX1_put 14 (.aload_n 0) 15 := ⟨by decide +kernel, rfl⟩
theorem dX1_put_15 : uD 3 cX1_put 15 (.getfield 22) 18 := ⟨by decide +kernel, rfl⟩
theorem dX1_put_18 : uD 2 cX1_put 18 (.iload 5) 20 := ⟨by decide +kernel, rfl⟩
theorem dX1_put_20 : uD 1 cX1_put 20 (.iload_n 3) 21 := ⟨by decide +kernel, rfl⟩
theorem dX1_put_21 : uD 1 cX1_put 21 (.iastore) 22 := ⟨by decide +kernel, rfl⟩
theorem dX1_put_22 : uD 1 cX1_put 22 (.return_) 23 := ⟨by decide +kernel, rfl⟩
theorem dX1_put_23 : uD 1 cX1_put 23 (.aload_n 0) 24 := ⟨by decide +kernel, rfl⟩
theorem dX1_put_24 : uD 3 cX1_put 24 (.getfield 9) 27 := ⟨by decide +kernel, rfl⟩
theorem dX1_put_27 : uD 2 cX1_put 27 (.bipush 24) 29 := ⟨by decide +kernel, rfl⟩
theorem dX1_put_29 : uJ cX1_put 29 (fun o => .if_icmp .lt o) 33 32 := ⟨4, by decide +kernel, by decide, rfl⟩
theorem dX1_put_32 : uD 1 cX1_put 32 (.return_) 33 := ⟨by decide +kernel, rfl⟩
theorem dX1_put_33 : uD 1 cX1_put 33 (.aload_n 0) 34 := ⟨by decide +kernel, rfl⟩
theorem dX1_put_34 : uD 3 cX1_put 34 (.getfield 9) 37 := ⟨by decide +kernel, rfl⟩
theorem dX1_put_37 : uD 2 cX1_put 37 (.istore 6) 39 := ⟨by decide +kernel, rfl⟩
theorem dX1_put_39 : uD 2 cX1_put 39 (.iload 6) 41 := ⟨by decide +kernel, rfl⟩
theorem dX1_put_41 : uJ cX1_put 41 (fun o => .ifCond .le o) 74 44 := ⟨33, by decide +kernel, by decide, rfl⟩
theorem dX1_put_44 : uD 1 cX1_put 44 (.aload_n 0) 45 := ⟨by decide +kernel, rfl⟩
theorem dX1_put_45 : uD 2 cX1_put 45 (.iload 6) 47 := ⟨by decide +kernel, rfl⟩
theorem dX1_put_47 : uD 1 cX1_put 47 (.iconst 1) 48 := ⟨by decide +kernel, rfl⟩
theorem dX1_put_48 : uD 1 cX1_put 48 (.isub) 49 := ⟨by decide +kernel, rfl⟩
theorem dX1_put_49 : uD 1 cX1_put 49 (.iload_n 1) 50 := ⟨by decide +kernel, rfl⟩
theorem dX1_put_50 : uD 1 cX1_put 50 (.iload_n 2) 51 := ⟨by decide +kernel, rfl⟩
theorem dX1_put_51 : uD 3 cX1_put 51 (.invokevirtual 36) 54 := ⟨by decide +kernel, rfl⟩
theorem dX1_put_54 : uJ cX1_put 54 (fun o => .ifCond .eq o) 74 57 := ⟨20, by decide +kernel, by decide, rfl⟩
theorem dX1_put_57 : uD 1 cX1_put 57 (.aload_n 0) 58 := ⟨by decide +kernel, rfl⟩
theorem dX1_put_58 : uD 1 cX1_put 58 (.aload_n 0) 59 := ⟨by decide +kernel, rfl⟩
theorem dX1_put_59 : uD 2 cX1_put 59 (.iload 6) 61 := ⟨by decide +kernel, rfl⟩
theorem dX1_put_61 : uD 1 cX1_put 61 (.iconst 1) 62 := ⟨by decide +kernel, rfl⟩
theorem dX1_put_62 : uD 1 cX1_put 62 (.isub) 63 := ⟨by decide +kernel, rfl⟩
theorem dX1_put_63 : uD 2 cX1_put 63 (.iload 6) 65 := ⟨by decide +kernel, rfl⟩
theorem dX1_put_65 : uD 3 cX1_put 65 (.invokevirtual 28) 68 := ⟨by decide +kernel, rfl⟩
theorem dX1_put_68 : uD 3 cX1_put 68 (.iinc 6 (-1)) 71 := ⟨by decide +kernel, rfl⟩
theorem dX1_put_71 : uJ cX1_put 71 (fun o => .goto o) 39 74 := ⟨(-32), by decide +kernel, by decide, rfl⟩
theorem dX1_put_74 : uD 1 cX1_put 74 (.aload_n 0) 75 := ⟨by decide +kernel, rfl⟩
theorem dX1_put_75 : uD 3 cX1_put 75 (.getfield 15) 78 := ⟨by decide +kernel, rfl⟩
theorem dX1_put_78 : uD 2 cX1_put 78 (.iload 6) 80 := ⟨by decide +kernel, rfl⟩
theorem dX1_put_80 : uD 1 cX1_put 80 (.iload_n 1) 81 := ⟨by decide +kernel, rfl⟩
theorem dX1_put_81 : uD 1 cX1_put 81 (.iastore) 82 := ⟨by decide +kernel, rfl⟩
theorem dX1_put_82 : uD 1 cX1_put 82 (.aload_n 0) 83 := ⟨by decide +kernel, rfl⟩
theorem dX1_put_83 : uD 3 cX1_put 83 (.getfield 19) 86 := ⟨by decide +kernel, rfl⟩
theorem dX1_put_86 : uD 2 cX1_put 86 (.iload 6) 88 := ⟨by decide +kernel, rfl⟩
theorem dX1_put_88 : uD 1 cX1_put 88 (.iload_n 2) 89 := ⟨by decide +kernel, rfl⟩
theorem dX1_put_89 : uD 1 cX1_put 89 (.iastore) 90 := ⟨by decide +kernel, rfl⟩
theorem dX1_put_90 : uD 1 cX1_put 90 (.aload_n 0) 91 := ⟨by decide +kernel, rfl⟩
theorem dX1_put_91 : uD 3 cX1_put 91 (.getfield 22) 94 := ⟨by decide +kernel, rfl⟩
theorem dX1_put_94 : uD 2 cX1_put 94 (.iload 6) 96 := ⟨by decide +kernel, rfl⟩
theorem dX1_put_96 : uD 1 cX1_put 96 (.iload_n 3) 97 := ⟨by decide +kernel, rfl⟩
theorem dX1_put_97 : uD 1 cX1_put 97 (.iastore) 98 := ⟨by decide +kernel, rfl⟩
theorem dX1_put_98 : uD 1 cX1_put 98 (.aload_n 0) 99 := ⟨by decide +kernel, rfl⟩
theorem dX1_put_99 : uD 3 cX1_put 99 (.getfield 25) 102 := ⟨by decide +kernel, rfl⟩
theorem dX1_put_102 : uD 2 cX1_put 102 (.iload 6) 104 := ⟨by decide +kernel, rfl⟩
theorem dX1_put_104 : uD 2 cX1_put 104 (.iload 4) 106 := ⟨by decide +kernel, rfl⟩
theorem dX1_put_106 : uD 1 cX1_put 106 (.iastore) 107 := ⟨by decide +kernel, rfl⟩
theorem dX1_put_107 : uD 1 cX1_put 107 (.aload_n 0) 108 := ⟨by decide +kernel, rfl⟩
theorem dX1_put_108 : uD 1 cX1_put 108 (.dup) 109 := ⟨by decide +kernel, rfl⟩
theorem dX1_put_109 : uD 3 cX1_put 109 (.getfield 9) 112 := ⟨by decide +kernel, rfl⟩
theorem dX1_put_112 : uD 1 cX1_put 112 (.iconst 1) 113 := ⟨by decide +kernel, rfl⟩
theorem dX1_put_113 : uD 1 cX1_put 113 (.iadd) 114 := ⟨by decide +kernel, rfl⟩
theorem dX1_put_114 : uD 3 cX1_put 114 (.putfield 9) 117 := ⟨by decide +kernel, rfl⟩
theorem dX1_put_117 : uD 1 cX1_put 117 (.return_) 118 := ⟨by decide +kernel, rfl⟩
theorem dX1_isBehind_0 : uD 1 cX1_isBehind 0 (.aload_n 0) 1 := ⟨by decide +kernel, rfl⟩
theorem dX1_isBehind_1 : uD 3 cX1_isBehind 1 (.getfield 15) 4 := ⟨by decide +kernel, rfl⟩
theorem dX1_isBehind_4 : uD 1 cX1_isBehind 4 (.iload_n 1) 5 := ⟨by decide +kernel, rfl⟩
theorem dX1_isBehind_5 : uD 1 cX1_isBehind 5 (.iaload) 6 := ⟨by decide +kernel, rfl⟩
theorem dX1_isBehind_6 : uD 1 cX1_isBehind 6 (.iload_n 2) 7 := ⟨by decide +kernel, rfl⟩
theorem dX1_isBehind_7 : uJ cX1_isBehind 7 (fun o => .if_icmp .gt o) 30 10 := ⟨23, by decide +kernel, by decide, rfl⟩
theorem dX1_isBehind_10 : uD 1 cX1_isBehind 10 (.aload_n 0) 11 := ⟨by decide +kernel, rfl⟩
theorem dX1_isBehind_11 : uD 3 cX1_isBehind 11 (.getfield 15) 14 := ⟨by decide +kernel, rfl⟩
theorem dX1_isBehind_14 : uD 1 cX1_isBehind 14 (.iload_n 1) 15 := ⟨by decide +kernel, rfl⟩
theorem dX1_isBehind_15 : uD 1 cX1_isBehind 15 (.iaload) 16 := ⟨by decide +kernel, rfl⟩
theorem dX1_isBehind_16 : uD 1 cX1_isBehind 16 (.iload_n 2) 17 := ⟨by decide +kernel, rfl⟩
theorem dX1_isBehind_17 : uJ cX1_isBehind 17 (fun o => .if_icmp .ne o) 34 20 := ⟨17, by decide +kernel, by decide, rfl⟩
theorem dX1_isBehind_20 : uD 1 cX1_isBehind 20 (.aload_n 0) 21 := ⟨by decide +kernel, rfl⟩
theorem dX1_isBehind_21 : uD 3 cX1_isBehind 21 (.getfield 19) 24 := ⟨by decide +kernel, rfl⟩
theorem dX1_isBehind_24 : uD 1 cX1_isBehind 24 (.iload_n 1) 25 := ⟨by decide +kernel, rfl⟩
theorem dX1_isBehind_25 : uD 1 cX1_isBehind 25 (.iaload) 26 := ⟨by decide +kernel, rfl⟩
theorem dX1_isBehind_26 : uD 1 cX1_isBehind 26 (.iload_n 3) 27 := ⟨by decide +kernel, rfl⟩
theorem dX1_isBehind_27 : uJ cX1_isBehind 27 (fun o => .if_icmp .le o) 34 30 := ⟨7, by decide +kernel, by decide, rfl⟩
theorem dX1_isBehind_30 : uD 1 cX1_isBehind 30 (.iconst 1) 31 := ⟨by decide +kernel, rfl⟩
theorem dX1_isBehind_31 : uJ cX1_isBehind 31 (fun o => .goto o) 35 34 := ⟨4, by decide +kernel, by decide, rfl⟩
theorem dX1_isBehind_34 : uD 1 cX1_isBehind 34 (.iconst 0) 35 := ⟨by decide +kernel, rfl⟩
theorem dX1_isBehind_35 : uD 1 cX1_isBehind 35 (.ireturn) 36 := ⟨by decide +kernel, rfl⟩
theorem dX1_drop_0 : uD 1 cX1_drop 0 (.aload_n 0) 1 := ⟨by decide +kernel, rfl⟩
theorem dX1_drop_1 : uD 1 cX1_drop 1 (.iload_n 1) 2 := ⟨by decide +kernel, rfl⟩
theorem dX1_drop_2 : uD 1 cX1_drop 2 (.iload_n 2) 3 := ⟨by decide +kernel, rfl⟩
theorem dX1_drop_3 : uD 3 cX1_drop 3 (.invokevirtual 32) 6 := ⟨by decide +kernel, rfl⟩
theorem dX1_drop_6 : uD 1 cX1_drop 6 (.istore_n 3) 7 := ⟨by decide +kernel, rfl⟩
theorem dX1_drop_7 : uD 1 cX1_drop 7 (.iload_n 3) 8 := ⟨by decide +kernel, rfl⟩
theorem dX1_drop_8 : uD 1 cX1_drop 8 (.iconst (-1)) 9 := ⟨by decide +kernel, rfl⟩
theorem dX1_drop_9 : uJ cX1_drop 9 (fun o => .if_icmp .eq o) 19 12 := ⟨10, by decide +kernel, by decide, rfl⟩
theorem dX1_drop_12 : uD 1 cX1_drop 12 (.aload_n 0) 13 := ⟨by decide +kernel, rfl⟩
theorem dX1_drop_13 : uD 1 cX1_drop 13 (.iconst 1) 14 := ⟨by decide +kernel, rfl⟩
theorem dX1_drop_14 : uD 1 cX1_drop 14 (.iload_n 3) 15 := ⟨by decide +kernel, rfl⟩
theorem dX1_drop_15 : uD 1 cX1_drop 15 (.ishl) 16 := ⟨by decide +kernel, rfl⟩
theorem dX1_drop_16 : uD 3 cX1_drop 16 (.invokevirtual 40) 19 := ⟨by decide +kernel, rfl⟩
theorem dX1_drop_19 : uD 1 cX1_drop 19 (.return_) 20 := ⟨by decide +kernel, rfl⟩
theorem dX1_removeSet_0 : uD 1 cX1_removeSet 0 (.iconst 0) 1 := ⟨by decide +kernel, rfl⟩
theorem dX1_removeSet_1 : uD 1 cX1_removeSet 1 (.istore_n 2) 2 := ⟨by decide +kernel, rfl⟩
theorem dX1_removeSet_2 : uD 1 cX1_removeSet 2 (.iconst 0) 3 := ⟨by decide +kernel, rfl⟩
theorem dX1_removeSet_3 : uD 1 cX1_removeSet 3 (.istore_n 3) 4 := ⟨by decide +kernel, rfl⟩
theorem dX1_removeSet_4 : uD 1 cX1_removeSet 4 (.iload_n 3) 5 := ⟨by decide +kernel, rfl⟩
theorem dX1_removeSet_5 : uD 1 cX1_removeSet 5 (.aload_n 0) 6 := ⟨by decide +kernel, rfl⟩
theorem dX1_removeSet_6 : uD 3 cX1_removeSet 6 (.getfield 9) 9 := ⟨by decide +kernel, rfl⟩
theorem dX1_removeSet_9 : uJ cX1_removeSet 9 (fun o => .if_icmp .ge o) 36 12 := ⟨27, by decide +kernel, by decide, rfl⟩
theorem dX1_removeSet_12 : uD 1 cX1_removeSet 12 (.iload_n 1) 13 := ⟨by decide +kernel, rfl⟩
theorem dX1_removeSet_13 : uD 1 cX1_removeSet 13 (.iload_n 3) 14 := ⟨by decide +kernel, rfl⟩
theorem dX1_removeSet_14 : uD 1 cX1_removeSet 14 (.ishr) 15 := ⟨by decide +kernel, rfl⟩
theorem dX1_removeSet_15 : uD 1 cX1_removeSet 15 (.iconst 1) 16 := ⟨by decide +kernel, rfl⟩
theorem dX1_removeSet_16 : uD 1 cX1_removeSet 16 (.iand) 17 := ⟨by decide +kernel, rfl⟩
theorem dX1_removeSet_17 : uJ cX1_removeSet 17 (fun o => .ifCond .ne o) 30 20 := ⟨13, by decide +kernel, by decide, rfl⟩
theorem dX1_removeSet_20 : uD 1 cX1_removeSet 20 (.aload_n 0) 21 := ⟨by decide +kernel, rfl⟩
theorem dX1_removeSet_21 : uD 1 cX1_removeSet 21 (.aload_n 0) 22 := ⟨by decide +kernel, rfl⟩
theorem dX1_removeSet_22 : uD 1 cX1_removeSet 22 (.iload_n 3) 23 := ⟨by decide +kernel, rfl⟩
theorem dX1_removeSet_23 : uD 1 cX1_removeSet 23 (.iload_n 2) 24 := ⟨by decide +kernel, rfl⟩
theorem dX1_removeSet_24 : uD 3 cX1_removeSet 24 (.invokevirtual 28) 27 := ⟨by decide +kernel, rfl⟩
theorem dX1_removeSet_27 : uD 3 cX1_removeSet 27 (.iinc 2 1) 30 := ⟨by decide +kernel, rfl⟩
theorem dX1_removeSet_30 : uD 3 cX1_removeSet 30 (.iinc 3 1) 33 := ⟨by decide +kernel, rfl⟩
theorem dX1_removeSet_33 : uJ cX1_removeSet 33 (fun o => .goto o) 4 36 := ⟨(-29), by decide +kernel, by decide, rfl⟩
theorem dX1_removeSet_36 : uD 1 cX1_removeSet 36 (.aload_n 0) 37 := ⟨by decide +kernel, rfl⟩
theorem dX1_removeSet_37 : uD 1 cX1_removeSet 37 (.iload_n 2) 38 := ⟨by decide +kernel, rfl⟩
theorem dX1_removeSet_38 : uD 3 cX1_removeSet 38 (.putfield 9) 41 := ⟨by decide +kernel, rfl⟩
theorem dX1_removeSet_41 : uD 1 cX1_removeSet 41 (.return_) 42 := ⟨by decide +kernel, rfl⟩
theorem dX2_init_0 : uD 1 cX2_init 0 (.aload_n 0) 1 := ⟨by decide +kernel, rfl⟩
theorem dX2_init_1 : uD 3 cX2_init 1 (.invokespecial 3) 4 := ⟨by decide +kernel, rfl⟩
theorem dX2_init_4 : uD 1 cX2_init 4 (.aload_n 0) 5 := ⟨by decide +kernel, rfl⟩
theorem dX2_init_5 : uD 1 cX2_init 5 (.iconst 0) 6 := ⟨by decide +kernel, rfl⟩
theorem dX2_init_6 : uD 3 cX2_init 6 (.putfield 9) 9 := ⟨by decide +kernel, rfl⟩
theorem dX2_init_9 : uD 1 cX2_init 9 (.aload_n 0) 10 := ⟨by decide +kernel, rfl⟩
theorem dX2_init_10 : uD 1 cX2_init 10 (.iconst 5) 11 := ⟨by decide +kernel, rfl⟩
theorem dX2_init_11 : uD 2 cX2_init 11 (.newarray .int) 13 := ⟨by decide +kernel, rfl⟩
theorem dX2_init_13 : uD 3 cX2_init 13 (.putfield 15) 16 := ⟨by decide +kernel, rfl⟩
theorem dX2_init_16 : uD 1 cX2_init 16 (.aload_n 0) 17 := ⟨by decide +kernel, rfl⟩
theorem dX2_init_17 : uD 1 cX2_init 17 (.iconst 5) 18 := ⟨by decide +kernel, rfl⟩
theorem dX2_init_18 : uD 2 cX2_init 18 (.newarray .int) 20 := ⟨by decide +kernel, rfl⟩
theorem dX2_init_20 : uD 3 cX2_init 20 (.putfield 19) 23 := ⟨by decide +kernel, rfl⟩
theorem dX2_init_23 : uD 1 cX2_init 23 (.aload_n 0) 24 := ⟨by decide +kernel, rfl⟩
theorem dX2_init_24 : uD 1 cX2_init 24 (.iconst 5) 25 := ⟨by decide +kernel, rfl⟩
theorem dX2_init_25 : uD 2 cX2_init 25 (.newarray .int) 27 := ⟨by decide +kernel, rfl⟩
theorem dX2_init_27 : uD 3 cX2_init 27 (.putfield 22) 30 := ⟨by decide +kernel, rfl⟩
theorem dX2_init_30 : uD 1 cX2_init 30 (.aload_n 0) 31 := ⟨by decide +kernel, rfl⟩
theorem dX2_init_31 : uD 1 cX2_init 31 (.iconst 5) 32 := ⟨by decide +kernel, rfl⟩
theorem dX2_init_32 : uD 2 cX2_init 32 (.newarray .boolean) 34 := ⟨by decide +kernel, rfl⟩
theorem dX2_init_34 : uD 3 cX2_init 34 (.putfield 25) 37 := ⟨by decide +kernel, rfl⟩
theorem dX2_init_37 : uD 1 cX2_init 37 (.return_) 38 := ⟨by decide +kernel, rfl⟩
theorem dX2_copyFrom_0 : uD 1 cX2_copyFrom 0 (.aload_n 0) 1 := ⟨by decide +kernel, rfl⟩
theorem dX2_copyFrom_1 : uD 1 cX2_copyFrom 1 (.aload_n 1) 2 := ⟨by decide +kernel, rfl⟩
theorem dX2_copyFrom_2 : uD 3 cX2_copyFrom 2 (.getfield 9) 5 := ⟨by decide +kernel, rfl⟩
theorem dX2_copyFrom_5 : uD 3 cX2_copyFrom 5 (.putfield 9) 8 := ⟨by decide +kernel, rfl⟩
theorem dX2_copyFrom_8 : uD 1 cX2_copyFrom 8 (.iconst 0) 9 := ⟨by decide +kernel, rfl⟩
theorem dX2_copyFrom_9 : uD 1 cX2_copyFrom 9 (.istore_n 2) 10 := ⟨by decide +kernel, rfl⟩
theorem dX2_copyFrom_10 : uD 1 cX2_copyFrom 10 (.iload_n 2) 11 := ⟨by decide +kernel, rfl⟩
theorem dX2_copyFrom_11 : uD 1 cX2_copyFrom 11 (.iconst 5) 12 := ⟨by decide +kernel, rfl⟩
theorem dX2_copyFrom_12 : uJ cX2_copyFrom 12 (fun o => .if_icmp .ge o) 69 15 := ⟨57, by decide +kernel, by decide, rfl⟩
theorem dX2_copyFrom_15 : uD 1 cX2_copyFrom 15 (.aload_n 0) 16 := ⟨by decide +kernel, rfl⟩
theorem dX2_copyFrom_16 : uD 3 cX2_copyFrom 16 (.getfield 15) 19 := ⟨by decide +kernel, rfl⟩
theorem dX2_copyFrom_19 : uD 1 cX2_copyFrom 19 (.iload_n 2) 20 := ⟨by decide +kernel, rfl⟩
theorem dX2_copyFrom_20 : uD 1 cX2_copyFrom 20 (.aload_n 1) 21 := ⟨by decide +kernel, rfl⟩
theorem dX2_copyFrom_21 : uD 3 cX2_copyFrom 21 (.getfield 15) 24 := ⟨by decide +kernel, rfl⟩
theorem dX2_copyFrom_24 : uD 1 cX2_copyFrom 24 (.iload_n 2) 25 := ⟨by decide +kernel, rfl⟩
theorem dX2_copyFrom_25 : uD 1 cX2_copyFrom 25 (.iaload) 26 := ⟨by decide +kernel, rfl⟩
theorem dX2_copyFrom_26 : uD 1 cX2_copyFrom 26 (.iastore) 27 := ⟨by decide +kernel, rfl⟩
theorem dX2_copyFrom_27 : uD 1 cX2_copyFrom 27 (.aload_n 0) 28 := ⟨by decide +kernel, rfl⟩
theorem dX2_copyFrom_28 : uD 3 cX2_copyFrom 28 (.getfield 19) 31 := ⟨by decide +kernel, rfl⟩
theorem dX2_copyFrom_31 : uD 1 cX2_copyFrom 31 (.iload_n 2) 32 := ⟨by decide +kernel, rfl⟩
theorem dX2_copyFrom_32 : uD 1 cX2_copyFrom 32 (.aload_n 1) 33 := ⟨by decide +kernel, rfl⟩
theorem dX2_copyFrom_33 : uD 3 cX2_copyFrom 33 (.getfield 19) 36 := ⟨by decide +kernel, rfl⟩
theorem dX2_copyFrom_36 : uD 1 cX2_copyFrom 36 (.iload_n 2) 37 := ⟨by decide +kernel, rfl⟩
theorem dX2_copyFrom_37 : uD 1 cX2_copyFrom 37 (.iaload) 38 := ⟨by decide +kernel, rfl⟩
theorem dX2_copyFrom_38 : uD 1 cX2_copyFrom 38 (.iastore) 39 := ⟨by decide +kernel, rfl⟩
theorem dX2_copyFrom_39 : uD 1 cX2_copyFrom 39 (.aload_n 0) 40 := ⟨by decide +kernel, rfl⟩
theorem dX2_copyFrom_40 : uD 3 cX2_copyFrom 40 (.getfield 22) 43 := ⟨by decide +kernel, rfl⟩
theorem dX2_copyFrom_43 : uD 1 cX2_copyFrom 43 (.iload_n 2) 44 := ⟨by decide +kernel, rfl⟩
theorem dX2_copyFrom_44 : uD 1 cX2_copyFrom 44 (.aload_n 1) 45 := ⟨by decide +kernel, rfl⟩
theorem dX2_copyFrom_45 : uD 3 cX2_copyFrom 45 (.getfield 22) 48 := ⟨by decide +kernel, rfl⟩
theorem dX2_copyFrom_48 : uD 1 cX2_copyFrom 48 (.iload_n 2) 49 := ⟨by decide +kernel, rfl⟩
theorem dX2_copyFrom_49 : uD 1 cX2_copyFrom 49 (.iaload) 50 := ⟨by decide +kernel, rfl⟩
theorem dX2_copyFrom_50 : uD 1 cX2_copyFrom 50 (.iastore) 51 := ⟨by decide +kernel, rfl⟩
theorem dX2_copyFrom_51 : uD 1 cX2_copyFrom 51 (.aload_n 0) 52 := ⟨by decide +kernel, rfl⟩
theorem dX2_copyFrom_52 : uD 3 cX2_copyFrom 52 (.getfield 25) 55 := ⟨by decide +kernel, rfl⟩
theorem dX2_copyFrom_55 : uD 1 cX2_copyFrom 55 (.iload_n 2) 56 := ⟨by decide +kernel, rfl⟩
theorem dX2_copyFrom_56 : uD 1 cX2_copyFrom 56 (.aload_n 1) 57 := ⟨by decide +kernel, rfl⟩
theorem dX2_copyFrom_57 : uD 3 cX2_copyFrom 57 (.getfield 25) 60 := ⟨by decide +kernel, rfl⟩
theorem dX2_copyFrom_60 : uD 1 cX2_copyFrom 60 (.iload_n 2) 61 := ⟨by decide +kernel, rfl⟩
theorem dX2_copyFrom_61 : uD 1 cX2_copyFrom 61 (.baload) 62 := ⟨by decide +kernel, rfl⟩
theorem dX2_copyFrom_62 : uD 1 cX2_copyFrom 62 (.bastore) 63 := ⟨by decide +kernel, rfl⟩
theorem dX2_copyFrom_63 : uD 3 cX2_copyFrom 63 (.iinc 2 1) 66 := ⟨by decide +kernel, rfl⟩
theorem dX2_copyFrom_66 : uJ cX2_copyFrom 66 (fun o => .goto o) 10 69 := ⟨(-56), by decide +kernel, by decide, rfl⟩
theorem dX2_copyFrom_69 : uD 1 cX2_copyFrom 69 (.return_) 70 := ⟨by decide +kernel, rfl⟩
theorem dX2_energyIn_0 : uD 1 cX2_energyIn 0 (.iconst 0) 1 := ⟨by decide +kernel, rfl⟩
theorem dX2_energyIn_1 : uD 1 cX2_energyIn 1 (.istore_n 3) 2 := ⟨by decide +kernel, rfl⟩
theorem dX2_energyIn_2 : uD 1 cX2_energyIn 2 (.iconst (-1)) 3 := ⟨by decide +kernel, rfl⟩
theorem dX2_energyIn_3 : uD 2 cX2_energyIn 3 (.istore 4) 5 := ⟨by decide +kernel, rfl⟩
theorem dX2_energyIn_5 : uD 1 cX2_energyIn 5 (.iconst 0) 6 := ⟨by decide +kernel, rfl⟩
theorem dX2_energyIn_6 : uD 2 cX2_energyIn 6 (.istore 5) 8 := ⟨by decide +kernel, rfl⟩
theorem dX2_energyIn_8 : uD 2 cX2_energyIn 8 (.iload 5) 10 := ⟨by decide +kernel, rfl⟩
theorem dX2_energyIn_10 : uD 1 cX2_energyIn 10 (.aload_n 1) 11 := ⟨by decide +kernel, rfl⟩
theorem dX2_energyIn_11 : uD 3 cX2_energyIn 11 (.getfield 29) 14 := ⟨by decide +kernel, rfl⟩
theorem dX2_energyIn_14 : uJ cX2_energyIn 14 (fun o => .if_icmp .ge o) 118 17 := ⟨104, by decide +kernel, by decide, rfl⟩
theorem dX2_energyIn_17 : uD 1 cX2_energyIn 17 (.iload_n 2) 18 := ⟨by decide +kernel, rfl⟩
theorem dX2_energyIn_18 : uD 2 cX2_energyIn 18 (.iload 5) 20 := ⟨by decide +kernel, rfl⟩
theorem dX2_energyIn_20 : uD 1 cX2_energyIn 20 (.ishr) 21 := ⟨by decide +kernel, rfl⟩
theorem dX2_energyIn_21 : uD 1 cX2_energyIn 21 (.iconst 1) 22 := ⟨by decide +kernel, rfl⟩
theorem dX2_energyIn_22 : uD 1 cX2_energyIn 22 (.iand) 23 := ⟨by decide +kernel, rfl⟩
theorem dX2_energyIn_23 : uJ cX2_energyIn 23 (fun o => .ifCond .ne o) 29 26 := ⟨6, by decide +kernel, by decide, rfl⟩
theorem dX2_energyIn_26 : uJ cX2_energyIn 26 (fun o => .goto o) 112 29 := ⟨86, by decide +kernel, by decide, rfl⟩
theorem dX2_energyIn_29 : uD 1 cX2_energyIn 29 (.aload_n 1) 30 := ⟨by decide +kernel, rfl⟩
theorem dX2_energyIn_30 : uD 3 cX2_energyIn 30 (.getfield 32) 33 := ⟨by decide +kernel, rfl⟩
theorem dX2_energyIn_33 : uD 2 cX2_energyIn 33 (.iload 5) 35 := ⟨by decide +kernel, rfl⟩
theorem dX2_energyIn_35 : uD 1 cX2_energyIn 35 (.iaload) 36 := ⟨by decide +kernel, rfl⟩
theorem dX2_energyIn_36 : uD 2 cX2_energyIn 36 (.istore 6) 38 := ⟨by decide +kernel, rfl⟩
theorem dX2_energyIn_38 : uD 2 cX2_energyIn 38 (.iload 4) 40 := ⟨by decide +kernel, rfl⟩
theorem dX2_energyIn_40 : uD 1 cX2_energyIn 40 (.iconst (-1)) 41 := ⟨by decide +kernel, rfl⟩
theorem dX2_energyIn_41 : uJ cX2_energyIn 41 (fun o => .if_icmp .eq o) 56 44 := ⟨15, by decide +kernel, by decide, rfl⟩
theorem dX2_energyIn_44 : uD 1 cX2_energyIn 44 (.aload_n 1) 45 := ⟨by decide +kernel, rfl⟩
theorem dX2_energyIn_45 : uD 3 cX2_energyIn 45 (.getfield 32) 48 := ⟨by decide +kernel, rfl⟩
theorem dX2_energyIn_48 : uD 2 cX2_energyIn 48 (.iload 4) 50 := ⟨by decide +kernel, rfl⟩
theorem dX2_energyIn_50 : uD 1 cX2_energyIn 50 (.iaload) 51 := ⟨by decide +kernel, rfl⟩
theorem dX2_energyIn_51 : uD 2 cX2_energyIn 51 (.iload 6) 53 := ⟨by decide +kernel, rfl⟩
theorem dX2_energyIn_53 : uJ cX2_energyIn 53 (fun o => .if_icmp .eq o) 77 56 := ⟨24, by decide +kernel, by decide, rfl⟩
theorem dX2_energyIn_56 : uD 1 cX2_energyIn 56 (.iload_n 3) 57 := ⟨by decide +kernel, rfl⟩
theorem dX2_energyIn_57 : uD 1 cX2_energyIn 57 (.aload_n 0) 58 := ⟨by decide +kernel, rfl⟩
theorem dX2_energyIn_58 : uD 3 cX2_energyIn 58 (.getfield 15) 61 := ⟨by decide +kernel, rfl⟩
theorem dX2_energyIn_61 : uD 2 cX2_energyIn 61 (.iload 6) 63 := ⟨by decide +kernel, rfl⟩
theorem dX2_energyIn_63 : uD 1 cX2_energyIn 63 (.iaload) 64 := ⟨by decide +kernel, rfl⟩
theorem dX2_energyIn_64 : uD 1 cX2_energyIn 64 (.aload_n 0) 65 := ⟨by decide +kernel, rfl⟩
theorem dX2_energyIn_65 : uD 3 cX2_energyIn 65 (.getfield 19) 68 := ⟨by decide +kernel, rfl⟩
theorem dX2_energyIn_68 : uD 2 cX2_energyIn 68 (.iload 6) 70 := ⟨by decide +kernel, rfl⟩
theorem dX2_energyIn_70 : uD 1 cX2_energyIn 70 (.iaload) 71 := ⟨by decide +kernel, rfl⟩
theorem dX2_energyIn_71 : uD 1 cX2_energyIn 71 (.iadd) 72 := ⟨by decide +kernel, rfl⟩
theorem dX2_energyIn_72 : uD 1 cX2_energyIn 72 (.iadd) 73 := ⟨by decide +kernel, rfl⟩
theorem dX2_energyIn_73 : uD 1 cX2_energyIn 73 (.istore_n 3) 74 := ⟨by decide +kernel, rfl⟩
theorem dX2_energyIn_74 : uJ cX2_energyIn 74 (fun o => .goto o) 98 77 := ⟨24, by decide +kernel, by decide, rfl⟩
theorem dX2_energyIn_77 : uD 1 cX2_energyIn 77 (.aload_n 1) 78 := ⟨by decide +kernel, rfl⟩
theorem dX2_energyIn_78 : uD 2 cX2_energyIn 78 (.iload 4) 80 := ⟨by decide +kernel, rfl⟩
theorem dX2_energyIn_80 : uD 2 cX2_energyIn 80 (.iload 5) 82 := ⟨by decide +kernel, rfl⟩
theorem dX2_energyIn_82 : uD 3 cX2_energyIn 82 (.invokevirtual 35) 85 := ⟨by decide +kernel, rfl⟩
theorem dX2_energyIn_85 : uJ cX2_energyIn 85 (fun o => .ifCond .ne o) 98 88 := ⟨13, by decide +kernel, by decide, rfl⟩
theorem dX2_energyIn_88 : uD 1 cX2_energyIn 88 (.iload_n 3) 89 := ⟨by decide +kernel, rfl⟩
theorem dX2_energyIn_89 : uD 1 cX2_energyIn 89 (.aload_n 0) 90 := ⟨by decide +kernel, rfl⟩
theorem dX2_energyIn_90 : uD 3 cX2_energyIn 90 (.getfield 19) 93 := ⟨by decide +kernel, rfl⟩
theorem dX2_energyIn_93 : uD 2 cX2_energyIn 93 (.iload 6) 95 := ⟨by decide +kernel, rfl⟩
theorem dX2_energyIn_95 : uD 1 cX2_energyIn 95 (.iaload) 96 := ⟨by decide +kernel, rfl⟩
theorem dX2_energyIn_96 : uD 1 cX2_energyIn 96 (.iadd) 97 := ⟨by decide +kernel, rfl⟩
theorem dX2_energyIn_97 : uD 1 cX2_energyIn 97 (.istore_n 3) 98 := ⟨by decide +kernel, rfl⟩
theorem dX2_energyIn_98 : uD 1 cX2_energyIn 98 (.iload_n 3) 99 := ⟨by decide +kernel, rfl⟩
theorem dX2_energyIn_99 : uD 1 cX2_energyIn 99 (.aload_n 0) 100 := ⟨by decide +kernel, rfl⟩
theorem dX2_energyIn_100 : uD 3 cX2_energyIn 100 (.getfield 22) 103 := ⟨by decide +kernel, rfl⟩
theorem dX2_energyIn_103 : uD 2 cX2_energyIn 103 (.iload 6) 105 := ⟨by decide +kernel, rfl⟩
theorem dX2_energyIn_105 : uD 1 cX2_energyIn 105 (.iaload) 106 := ⟨by decide +kernel, rfl⟩
theorem dX2_energyIn_106 : uD 1 cX2_energyIn 106 (.iadd) 107 := ⟨by decide +kernel, rfl⟩
theorem dX2_energyIn_107 : uD 1 cX2_energyIn 107 (.istore_n 3) 108 := ⟨by decide +kernel, rfl⟩
theorem dX2_energyIn_108 : uD 2 cX2_energyIn 108 (.iload 5) 110 := ⟨by decide +kernel, rfl⟩
theorem dX2_energyIn_110 : uD 2 cX2_energyIn 110 (.istore 4) 112 := ⟨by decide +kernel, rfl⟩
theorem dX2_energyIn_112 : uD 3 cX2_energyIn 112 (.iinc 5 1) 115 := ⟨by decide +kernel, rfl⟩
theorem dX2_energyIn_115 : uJ cX2_energyIn 115 (fun o => .goto o) 8 118 := ⟨(-107), by decide +kernel, by decide, rfl⟩
theorem dX2_energyIn_118 : uD 1 cX2_energyIn 118 (.iload_n 3) 119 := ⟨by decide +kernel, rfl⟩
theorem dX2_energyIn_119 : uD 1 cX2_energyIn 119 (.ireturn) 120 := ⟨by decide +kernel, rfl⟩
theorem dX3_init_0 : uD 1 cX3_init 0 (.aload_n 0) 1 := ⟨by decide +kernel, rfl⟩
theorem dX3_init_1 : uD 3 cX3_init 1 (.invokespecial 3) 4 := ⟨by decide +kernel, rfl⟩
theorem dX3_init_4 : uD 1 cX3_init 4 (.aload_n 0) 5 := ⟨by decide +kernel, rfl⟩
theorem dX3_init_5 : uD 1 cX3_init 5 (.iconst 0) 6 := ⟨by decide +kernel, rfl⟩
theorem dX3_init_6 : uD 3 cX3_init 6 (.putfield 9) 9 := ⟨by decide +kernel, rfl⟩
theorem dX3_init_9 : uD 1 cX3_init 9 (.aload_n 0) 10 := ⟨by decide +kernel, rfl⟩
theorem dX3_init_10 : uD 2 cX3_init 10 (.bipush 24) 12 := ⟨by decide +kernel, rfl⟩
theorem dX3_init_12 : uD 3 cX3_init 12 (.putfield 15) 15 := ⟨by decide +kernel, rfl⟩
theorem dX3_init_15 : uD 1 cX3_init 15 (.aload_n 0) 16 := ⟨by decide +kernel, rfl⟩
theorem dX3_init_16 : uD 1 cX3_init 16 (.iconst 0) 17 := ⟨by decide +kernel, rfl⟩
theorem dX3_init_17 : uD 3 cX3_init 17 (.putfield 18) 20 := ⟨by decide +kernel, rfl⟩
theorem dX3_init_20 : uD 1 cX3_init 20 (.aload_n 0) 21 := ⟨by decide +kernel, rfl⟩
theorem dX3_init_21 : uD 1 cX3_init 21 (.iconst 0) 22 := ⟨by decide +kernel, rfl⟩
theorem dX3_init_22 : uD 3 cX3_init 22 (.putfield 21) 25 := ⟨by decide +kernel, rfl⟩
theorem dX3_init_25 : uD 1 cX3_init 25 (.return_) 26 := ⟨by decide +kernel, rfl⟩
theorem dX3_copyFrom_0 : uD 1 cX3_copyFrom 0 (.aload_n 0) 1 := ⟨by decide +kernel, rfl⟩
theorem dX3_copyFrom_1 : uD 1 cX3_copyFrom 1 (.aload_n 1) 2 := ⟨by decide +kernel, rfl⟩
theorem dX3_copyFrom_2 : uD 3 cX3_copyFrom 2 (.getfield 9) 5 := ⟨by decide +kernel, rfl⟩
theorem dX3_copyFrom_5 : uD 3 cX3_copyFrom 5 (.putfield 9) 8 := ⟨by decide +kernel, rfl⟩
theorem dX3_copyFrom_8 : uD 1 cX3_copyFrom 8 (.aload_n 0) 9 := ⟨by decide +kernel, rfl⟩
theorem dX3_copyFrom_9 : uD 1 cX3_copyFrom 9 (.aload_n 1) 10 := ⟨by decide +kernel, rfl⟩
theorem dX3_copyFrom_10 : uD 3 cX3_copyFrom 10 (.getfield 15) 13 := ⟨by decide +kernel, rfl⟩
theorem dX3_copyFrom_13 : uD 3 cX3_copyFrom 13 (.putfield 15) 16 := ⟨by decide +kernel, rfl⟩
theorem dX3_copyFrom_16 : uD 1 cX3_copyFrom 16 (.aload_n 0) 17 := ⟨by decide +kernel, rfl⟩
theorem dX3_copyFrom_17 : uD 1 cX3_copyFrom 17 (.aload_n 1) 18 := ⟨by decide +kernel, rfl⟩
theorem dX3_copyFrom_18 : uD 3 cX3_copyFrom 18 (.getfield 18) 21 := ⟨by decide +kernel, rfl⟩
theorem dX3_copyFrom_21 : uD 3 cX3_copyFrom 21 (.putfield 18) 24 := ⟨by decide +kernel, rfl⟩
theorem dX3_copyFrom_24 : uD 1 cX3_copyFrom 24 (.aload_n 0) 25 := ⟨by decide +kernel, rfl⟩
theorem dX3_copyFrom_25 : uD 1 cX3_copyFrom 25 (.aload_n 1) 26 := ⟨by decide +kernel, rfl⟩
theorem dX3_copyFrom_26 : uD 3 cX3_copyFrom 26 (.getfield 21) 29 := ⟨by decide +kernel, rfl⟩
theorem dX3_copyFrom_29 : uD 3 cX3_copyFrom 29 (.putfield 21) 32 := ⟨by decide +kernel, rfl⟩
theorem dX3_copyFrom_32 : uD 1 cX3_copyFrom 32 (.return_) 33 := ⟨by decide +kernel, rfl⟩
theorem dX3_setDefaults_0 : uD 1 cX3_setDefaults 0 (.aload_n 0) 1 := ⟨by decide +kernel, rfl⟩
theorem dX3_setDefaults_1 : uD 1 cX3_setDefaults 1 (.iconst 0) 2 := ⟨by decide +kernel, rfl⟩
theorem dX3_setDefaults_2 : uD 3 cX3_setDefaults 2 (.putfield 9) 5 := ⟨by decide +kernel, rfl⟩
theorem dX3_setDefaults_5 : uD 1 cX3_setDefaults 5 (.aload_n 0) 6 := ⟨by decide +kernel, rfl⟩
theorem dX3_setDefaults_6 : uD 2 cX3_setDefaults 6 (.bipush 24) 8 := ⟨by decide +kernel, rfl⟩
theorem dX3_setDefaults_8 : uD 3 cX3_setDefaults 8 (.putfield 15) 11 := ⟨by decide +kernel, rfl⟩
theorem dX3_setDefaults_11 : uD 1 cX3_setDefaults 11 (.aload_n 0) 12 := ⟨by decide +kernel, rfl⟩
theorem dX3_setDefaults_12 : uD 1 cX3_setDefaults 12 (.iconst 0) 13 := ⟨by decide +kernel, rfl⟩
theorem dX3_setDefaults_13 : uD 3 cX3_setDefaults 13 (.putfield 18) 16 := ⟨by decide +kernel, rfl⟩
theorem dX3_setDefaults_16 : uD 1 cX3_setDefaults 16 (.aload_n 0) 17 := ⟨by decide +kernel, rfl⟩
theorem dX3_setDefaults_17 : uD 1 cX3_setDefaults 17 (.iconst 0) 18 := ⟨by decide +kernel, rfl⟩
theorem dX3_setDefaults_18 : uD 3 cX3_setDefaults 18 (.putfield 21) 21 := ⟨by decide +kernel, rfl⟩
theorem dX3_setDefaults_21 : uD 1 cX3_setDefaults 21 (.return_) 22 := ⟨by decide +kernel, rfl⟩
theorem dX4_init_0 : uD 1 cX4_init 0 (.aload_n 0) 1 := ⟨by decide +kernel, rfl⟩
theorem dX4_init_1 : uD 3 cX4_init 1 (.invokespecial 5) 4 := ⟨by decide +kernel, rfl⟩
theorem dX4_init_4 : uD 1 cX4_init 4 (.aload_n 0) 5 := ⟨by decide +kernel, rfl⟩
theorem dX4_init_5 : uD 3 cX4_init 5 (.sipush 501) 8 := ⟨by decide +kernel, rfl⟩
theorem dX4_init_8 : uD 2 cX4_init 8 (.newarray .long) 10 := ⟨by decide +kernel, rfl⟩
theorem dX4_init_10 : uD 3 cX4_init 10 (.putfield 11) 13 := ⟨by decide +kernel, rfl⟩
theorem dX4_init_13 : uD 1 cX4_init 13 (.aload_n 0) 14 := ⟨by decide +kernel, rfl⟩
theorem dX4_init_14 : uD 3 cX4_init 14 (.sipush 501) 17 := ⟨by decide +kernel, rfl⟩
theorem dX4_init_17 : uD 2 cX4_init 17 (.newarray .long) 19 := ⟨by decide +kernel, rfl⟩
theorem dX4_init_19 : uD 3 cX4_init 19 (.putfield 15) 22 := ⟨by decide +kernel, rfl⟩
theorem dX4_init_22 : uD 1 cX4_init 22 (.aload_n 0) 23 := ⟨by decide +kernel, rfl⟩
theorem dX4_init_23 : uD 3 cX4_init 23 (.sipush 501) 26 := ⟨by decide +kernel, rfl⟩
theorem dX4_init_26 : uD 2 cX4_init 26 (.newarray .long) 28 := ⟨by decide +kernel, rfl⟩
theorem dX4_init_28 : uD 3 cX4_init 28 (.putfield 18) 31 := ⟨by decide +kernel, rfl⟩
theorem dX4_init_31 : uD 1 cX4_init 31 (.return_) 32 := ⟨by decide +kernel, rfl⟩
theorem dX4_best_0 : uD 1 cX4_best 0 (.aload_n 1) 1 := ⟨by decide +kernel, rfl⟩
theorem dX4_best_1 : uD 3 cX4_best 1 (.getfield 21) 4 := ⟨by decide +kernel, rfl⟩
theorem dX4_best_4 : uD 1 cX4_best 4 (.aload_n 1) 5 := ⟨by decide +kernel, rfl⟩
theorem dX4_best_5 : uD 3 cX4_best 5 (.getfield 27) 8 := ⟨by decide +kernel, rfl⟩
theorem dX4_best_8 : uD 1 cX4_best 8 (.iload_n 2) 9 := ⟨by decide +kernel, rfl⟩
theorem dX4_best_9 : uD 3 cX4_best 9 (.invokevirtual 31) 12 := ⟨by decide +kernel, rfl⟩
theorem dX4_best_12 : uD 1 cX4_best 12 (.iload_n 3) 13 := ⟨by decide +kernel, rfl⟩
theorem dX4_best_13 : uJ cX4_best 13 (fun o => .if_icmp .gt o) 18 16 := ⟨5, by decide +kernel, by decide, rfl⟩
theorem dX4_best_16 : uD 1 cX4_best 16 (.iload_n 2) 17 := ⟨by decide +kernel, rfl⟩
theorem dX4_best_17 : uD 1 cX4_best 17 (.ireturn) 18 := ⟨by decide +kernel, rfl⟩
theorem dX4_best_18 : uD 1 cX4_best 18 (.iconst 0) 19 := ⟨by decide +kernel, rfl⟩
theorem dX4_best_19 : uD 1 cX4_best 19 (.iload_n 3) 20 := ⟨by decide +kernel, rfl⟩
theorem dX4_best_20 : uD 3 cX4_best 20 (.sipush 500) 23 := ⟨by decide +kernel, rfl⟩
theorem dX4_best_23 : uD 3 cX4_best 23 (.invokestatic 37) 26 := ⟨by decide +kernel, rfl⟩
theorem dX4_best_26 : uD 3 cX4_best 26 (.invokestatic 43) 29 := ⟨by decide +kernel, rfl⟩
theorem dX4_best_29 : uD 2 cX4_best 29 (.istore 4) 31 := ⟨by decide +kernel, rfl⟩
theorem dX4_best_31 : uD 1 cX4_best 31 (.aload_n 0) 32 := ⟨by decide +kernel, rfl⟩
theorem dX4_best_32 : uD 1 cX4_best 32 (.aload_n 1) 33 := ⟨by decide +kernel, rfl⟩
theorem dX4_best_33 : uD 1 cX4_best 33 (.iload_n 2) 34 := ⟨by decide +kernel, rfl⟩
theorem dX4_best_34 : uD 2 cX4_best 34 (.iload 4) 36 := ⟨by decide +kernel, rfl⟩
theorem dX4_best_36 : uD 3 cX4_best 36 (.invokevirtual 46) 39 := ⟨by decide +kernel, rfl⟩
theorem dX4_best_39 : uD 1 cX4_best 39 (.aload_n 0) 40 := ⟨by decide +kernel, rfl⟩
theorem dX4_best_40 : uD 3 cX4_best 40 (.getfield 11) 43 := ⟨by decide +kernel, rfl⟩
theorem dX4_best_43 : uD 1 cX4_best 43 (.iconst 0) 44 := ⟨by decide +kernel, rfl⟩
theorem dX4_best_44 : uD 1 cX4_best 44 (.laload) 45 := ⟨by decide +kernel, rfl⟩
theorem dX4_best_45 : uD 2 cX4_best 45 (.lstore 5) 47 := ⟨by decide +kernel, rfl⟩
theorem dX4_best_47 : uD 1 cX4_best 47 (.iconst 1) 48 := ⟨by decide +kernel, rfl⟩
theorem dX4_best_48 : uD 2 cX4_best 48 (.istore 7) 50 := ⟨by decide +kernel, rfl⟩
theorem dX4_best_50 : uD 2 cX4_best 50 (.iload 7) 52 := ⟨by decide +kernel, rfl⟩
theorem dX4_best_52 : uD 2 cX4_best 52 (.iload 4) 54 := ⟨by decide +kernel, rfl⟩
theorem dX4_best_54 : uJ cX4_best 54 (fun o => .if_icmp .gt o) 91 57 := ⟨37, by decide +kernel, by decide, rfl⟩
theorem dX4_best_57 : uD 1 cX4_best 57 (.aload_n 0) 58 := ⟨by decide +kernel, rfl⟩
theorem dX4_best_58 : uD 3 cX4_best 58 (.getfield 11) 61 := ⟨by decide +kernel, rfl⟩
theorem dX4_best_61 : uD 2 cX4_best 61 (.iload 7) 63 := ⟨by decide +kernel, rfl⟩
theorem dX4_best_63 : uD 1 cX4_best 63 (.laload) 64 := ⟨by decide +kernel, rfl⟩
theorem dX4_best_64 : uD 2 cX4_best 64 (.bipush 24) 66 := ⟨by decide +kernel, rfl⟩
theorem dX4_best_66 : uD 1 cX4_best 66 (.lshr) 67 := ⟨by decide +kernel, rfl⟩
theorem dX4_best_67 : uD 2 cX4_best 67 (.lload 5) 69 := ⟨by decide +kernel, rfl⟩
theorem dX4_best_69 : uD 2 cX4_best 69 (.bipush 24) 71 := ⟨by decide +kernel, rfl⟩
theorem dX4_best_71 : uD 1 cX4_best 71 (.lshr) 72 := ⟨by decide +kernel, rfl⟩
theorem dX4_best_72 : uD 1 cX4_best 72 (.lcmp) 73 := ⟨by decide +kernel, rfl⟩
theorem dX4_best_73 : uJ cX4_best 73 (fun o => .ifCond .le o) 85 76 := ⟨12, by decide +kernel, by decide, rfl⟩
theorem dX4_best_76 : uD 1 cX4_best 76 (.aload_n 0) 77 := ⟨by decide +kernel, rfl⟩
theorem dX4_best_77 : uD 3 cX4_best 77 (.getfield 11) 80 := ⟨by decide +kernel, rfl⟩
theorem dX4_best_80 : uD 2 cX4_best 80 (.iload 7) 82 := ⟨by decide +kernel, rfl⟩
theorem dX4_best_82 : uD 1 cX4_best 82 (.laload) 83 := ⟨by decide +kernel, rfl⟩
theorem dX4_best_83 : uD 2 cX4_best 83 (.lstore 5) 85 := ⟨by decide +kernel, rfl⟩
theorem dX4_best_85 : uD 3 cX4_best 85 (.iinc 7 1) 88 := ⟨by decide +kernel, rfl⟩
theorem dX4_best_88 : uJ cX4_best 88 (fun o => .goto o) 50 91 := ⟨(-38), by decide +kernel, by decide, rfl⟩
theorem dX4_best_91 : uD 3 cX4_best 91 (.ldc2_w 50) 94 := ⟨by decide +kernel, rfl⟩
theorem dX4_best_94 : uD 2 cX4_best 94 (.lload 5) 96 := ⟨by decide +kernel, rfl⟩
theorem dX4_best_96 : uD 3 cX4_best 96 (.ldc2_w 50) 99 := ⟨by decide +kernel, rfl⟩
theorem dX4_best_99 : uD 1 cX4_best 99 (.land) 100 := ⟨by decide +kernel, rfl⟩
theorem dX4_best_100 : uD 1 cX4_best 100 (.lsub) 101 := ⟨by decide +kernel, rfl⟩
theorem dX4_best_101 : uD 1 cX4_best 101 (.l2i) 102 := ⟨by decide +kernel, rfl⟩
theorem dX4_best_102 : uD 1 cX4_best 102 (.ireturn) 103 := ⟨by decide +kernel, rfl⟩
theorem dX4_leastEnergy_0 : uD 1 cX4_leastEnergy 0 (.aload_n 0) 1 := ⟨by decide +kernel, rfl⟩
theorem dX4_leastEnergy_1 : uD 1 cX4_leastEnergy 1 (.aload_n 1) 2 := ⟨by decide +kernel, rfl⟩
theorem dX4_leastEnergy_2 : uD 1 cX4_leastEnergy 2 (.iload_n 2) 3 := ⟨by decide +kernel, rfl⟩
theorem dX4_leastEnergy_3 : uD 3 cX4_leastEnergy 3 (.sipush 500) 6 := ⟨by decide +kernel, rfl⟩
theorem dX4_leastEnergy_6 : uD 3 cX4_leastEnergy 6 (.invokevirtual 46) 9 := ⟨by decide +kernel, rfl⟩
theorem dX4_leastEnergy_9 : uD 1 cX4_leastEnergy 9 (.iconst 0) 10 := ⟨by decide +kernel, rfl⟩
theorem dX4_leastEnergy_10 : uD 2 cX4_leastEnergy 10 (.istore 4) 12 := ⟨by decide +kernel, rfl⟩
theorem dX4_leastEnergy_12 : uD 2 cX4_leastEnergy 12 (.iload 4) 14 := ⟨by decide +kernel, rfl⟩
theorem dX4_leastEnergy_14 : uD 3 cX4_leastEnergy 14 (.sipush 500) 17 := ⟨by decide +kernel, rfl⟩
theorem dX4_leastEnergy_17 : uJ cX4_leastEnergy 17 (fun o => .if_icmp .gt o) 57 20 := ⟨40, by decide +kernel, by decide, rfl⟩
theorem dX4_leastEnergy_20 : uD 1 cX4_leastEnergy 20 (.aload_n 0) 21 := ⟨by decide +kernel, rfl⟩
theorem dX4_leastEnergy_21 : uD 3 cX4_leastEnergy 21 (.getfield 11) 24 := ⟨by decide +kernel, rfl⟩
theorem dX4_leastEnergy_24 : uD 2 cX4_leastEnergy 24 (.iload 4) 26 := ⟨by decide +kernel, rfl⟩
theorem dX4_leastEnergy_26 : uD 1 cX4_leastEnergy 26 (.laload) 27 := ⟨by decide +kernel, rfl⟩
theorem dX4_leastEnergy_27 : uD 1 cX4_leastEnergy 27 (.lconst 0) 28 := ⟨by decide +kernel, rfl⟩
theorem dX4_leastEnergy_28 : uD 1 cX4_leastEnergy 28 (.lcmp) 29 := ⟨by decide +kernel, rfl⟩
theorem dX4_leastEnergy_29 : uJ cX4_leastEnergy 29 (fun o => .ifCond .lt o) 51 32 := ⟨22, by decide +kernel, by decide, rfl⟩
theorem dX4_leastEnergy_32 : uD 1 cX4_leastEnergy 32 (.aload_n 0) 33 := ⟨by decide +kernel, rfl⟩
theorem dX4_leastEnergy_33 : uD 3 cX4_leastEnergy 33 (.getfield 11) 36 := ⟨by decide +kernel, rfl⟩
theorem dX4_leastEnergy_36 : uD 2 cX4_leastEnergy 36 (.iload 4) 38 := ⟨by decide +kernel, rfl⟩
theorem dX4_leastEnergy_38 : uD 1 cX4_leastEnergy 38 (.laload) 39 := ⟨by decide +kernel, rfl⟩
theorem dX4_leastEnergy_39 : uD 2 cX4_leastEnergy 39 (.bipush 24) 41 := ⟨by decide +kernel, rfl⟩
theorem dX4_leastEnergy_41 : uD 1 cX4_leastEnergy 41 (.lshr) 42 := ⟨by decide +kernel, rfl⟩
theorem dX4_leastEnergy_42 : uD 1 cX4_leastEnergy 42 (.iload_n 3) 43 := ⟨by decide +kernel, rfl⟩
theorem dX4_leastEnergy_43 : uD 1 cX4_leastEnergy 43 (.i2l) 44 := ⟨by decide +kernel, rfl⟩
theorem dX4_leastEnergy_44 : uD 1 cX4_leastEnergy 44 (.lcmp) 45 := ⟨by decide +kernel, rfl⟩
theorem dX4_leastEnergy_45 : uJ cX4_leastEnergy 45 (fun o => .ifCond .lt o) 51 48 := ⟨6, by decide +kernel, by decide, rfl⟩
theorem dX4_leastEnergy_48 : uD 2 cX4_leastEnergy 48 (.iload 4) 50 := ⟨by decide +kernel, rfl⟩
theorem dX4_leastEnergy_50 : uD 1 cX4_leastEnergy 50 (.ireturn) 51 := ⟨by decide +kernel, rfl⟩
theorem dX4_leastEnergy_51 : uD 3 cX4_leastEnergy 51 (.iinc 4 1) 54 := ⟨by decide +kernel, rfl⟩
theorem dX4_leastEnergy_54 : uJ cX4_leastEnergy 54 (fun o => .goto o) 12 57 := ⟨(-42), by decide +kernel, by decide, rfl⟩
theorem dX4_leastEnergy_57 : uD 1 cX4_leastEnergy 57 (.iconst (-1)) 58 := ⟨by decide +kernel, rfl⟩
theorem dX4_leastEnergy_58 : uD 1 cX4_leastEnergy 58 (.ireturn) 59 := ⟨by decide +kernel, rfl⟩
theorem dX4_rank_0 : uD 1 cX4_rank 0 (.aload_n 0) 1 := ⟨by decide +kernel, rfl⟩
theorem dX4_rank_1 : uD 3 cX4_rank 1 (.getfield 11) 4 := ⟨by decide +kernel, rfl⟩
theorem dX4_rank_4 : uD 3 cX4_rank 4 (.ldc2_w 52) 7 := ⟨by decide +kernel, rfl⟩
theorem dX4_rank_7 : uD 3 cX4_rank 7 (.invokestatic 54) 10 := ⟨by decide +kernel, rfl⟩
theorem dX4_rank_10 : uD 1 cX4_rank 10 (.aload_n 0) 11 := ⟨by decide +kernel, rfl⟩
theorem dX4_rank_11 : uD 3 cX4_rank 11 (.getfield 15) 14 := ⟨by decide +kernel, rfl⟩
theorem dX4_rank_14 : uD 3 cX4_rank 14 (.ldc2_w 52) 17 := ⟨by decide +kernel, rfl⟩
theorem dX4_rank_17 : uD 3 cX4_rank 17 (.invokestatic 54) 20 := ⟨by decide +kernel, rfl⟩
theorem dX4_rank_20 : uD 1 cX4_rank 20 (.aload_n 0) 21 := ⟨by decide +kernel, rfl⟩
theorem dX4_rank_21 : uD 3 cX4_rank 21 (.getfield 18) 24 := ⟨by decide +kernel, rfl⟩
theorem dX4_rank_24 : uD 3 cX4_rank 24 (.ldc2_w 52) 27 := ⟨by decide +kernel, rfl⟩
theorem dX4_rank_27 : uD 3 cX4_rank 27 (.invokestatic 54) 30 := ⟨by decide +kernel, rfl⟩
theorem dX4_rank_30 : uD 1 cX4_rank 30 (.aload_n 0) 31 := ⟨by decide +kernel, rfl⟩
theorem dX4_rank_31 : uD 3 cX4_rank 31 (.getfield 11) 34 := ⟨by decide +kernel, rfl⟩
theorem dX4_rank_34 : uD 1 cX4_rank 34 (.iconst 0) 35 := ⟨by decide +kernel, rfl⟩
theorem dX4_rank_35 : uD 3 cX4_rank 35 (.ldc2_w 50) 38 := ⟨by decide +kernel, rfl⟩
theorem dX4_rank_38 : uD 1 cX4_rank 38 (.lastore) 39 := ⟨by decide +kernel, rfl⟩
theorem dX4_rank_39 : uD 1 cX4_rank 39 (.iconst (-1)) 40 := ⟨by decide +kernel, rfl⟩
theorem dX4_rank_40 : uD 2 cX4_rank 40 (.istore 4) 42 := ⟨by decide +kernel, rfl⟩
theorem dX4_rank_42 : uD 1 cX4_rank 42 (.iconst 0) 43 := ⟨by decide +kernel, rfl⟩
theorem dX4_rank_43 : uD 2 cX4_rank 43 (.istore 5) 45 := ⟨by decide +kernel, rfl⟩
theorem dX4_rank_45 : uD 1 cX4_rank 45 (.iconst 0) 46 := ⟨by decide +kernel, rfl⟩
theorem dX4_rank_46 : uD 2 cX4_rank 46 (.istore 6) 48 := ⟨by decide +kernel, rfl⟩
theorem dX4_rank_48 : uD 2 cX4_rank 48 (.iload 6) 50 := ⟨by decide +kernel, rfl⟩
theorem dX4_rank_50 : uD 1 cX4_rank 50 (.aload_n 1) 51 := ⟨by decide +kernel, rfl⟩
theorem dX4_rank_51 : uD 3 cX4_rank 51 (.getfield 27) 54 := ⟨by decide +kernel, rfl⟩
theorem dX4_rank_54 : uD 3 cX4_rank 54 (.getfield 60) 57 := ⟨by decide +kernel, rfl⟩
theorem dX4_rank_57 : uJ cX4_rank 57 (fun o => .if_icmp .ge o) 179 60 := ⟨122, by decide +kernel, by decide, rfl⟩
theorem dX4_rank_60 : uD 1 cX4_rank 60 (.iload_n 2) 61 := ⟨by decide +kernel, rfl⟩
theorem dX4_rank_61 : uD 2 cX4_rank 61 (.iload 6) 63 := ⟨by decide +kernel, rfl⟩
theorem dX4_rank_63 : uD 1 cX4_rank 63 (.ishr) 64 := ⟨by decide +kernel, rfl⟩
theorem dX4_rank_64 : uD 1 cX4_rank 64 (.iconst 1) 65 := ⟨by decide +kernel, rfl⟩
theorem dX4_rank_65 : uD 1 cX4_rank 65 (.iand) 66 := ⟨by decide +kernel, rfl⟩
theorem dX4_rank_66 : uJ cX4_rank 66 (fun o => .ifCond .ne o) 72 69 := ⟨6, by decide +kernel, by decide, rfl⟩
theorem dX4_rank_69 : uJ cX4_rank 69 (fun o => .goto o) 173 72 := ⟨104, by decide +kernel, by decide, rfl⟩
theorem dX4_rank_72 : uD 2 cX4_rank 72 (.iload 4) 74 := ⟨by decide +kernel, rfl⟩
theorem dX4_rank_74 : uD 1 cX4_rank 74 (.iconst (-1)) 75 := ⟨by decide +kernel, rfl⟩
theorem dX4_rank_75 : uJ cX4_rank 75 (fun o => .if_icmp .eq o) 107 78 := ⟨32, by decide +kernel, by decide, rfl⟩
theorem dX4_rank_78 : uD 1 cX4_rank 78 (.aload_n 1) 79 := ⟨by decide +kernel, rfl⟩
theorem dX4_rank_79 : uD 3 cX4_rank 79 (.getfield 27) 82 := ⟨by decide +kernel, rfl⟩
theorem dX4_rank_82 : uD 3 cX4_rank 82 (.getfield 66) 85 := ⟨by decide +kernel, rfl⟩
theorem dX4_rank_85 : uD 2 cX4_rank 85 (.iload 4) 87 := ⟨by decide +kernel, rfl⟩
theorem dX4_rank_87 : uD 1 cX4_rank 87 (.iaload) 88 := ⟨by decide +kernel, rfl⟩
theorem dX4_rank_88 : uD 1 cX4_rank 88 (.aload_n 1) 89 := ⟨by decide +kernel, rfl⟩
theorem dX4_rank_89 : uD 3 cX4_rank 89 (.getfield 27) 92 := ⟨by decide +kernel, rfl⟩
theorem dX4_rank_92 : uD 3 cX4_rank 92 (.getfield 66) 95 := ⟨by decide +kernel, rfl⟩
theorem dX4_rank_95 : uD 2 cX4_rank 95 (.iload 6) 97 := ⟨by decide +kernel, rfl⟩
theorem dX4_rank_97 : uD 1 cX4_rank 97 (.iaload) 98 := ⟨by decide +kernel, rfl⟩
theorem dX4_rank_98 : uJ cX4_rank 98 (fun o => .if_icmp .eq o) 107 101 := ⟨9, by decide +kernel, by decide, rfl⟩
theorem dX4_rank_101 : uD 1 cX4_rank 101 (.aload_n 0) 102 := ⟨by decide +kernel, rfl⟩
theorem dX4_rank_102 : uD 2 cX4_rank 102 (.iload 5) 104 := ⟨by decide +kernel, rfl⟩
theorem dX4_rank_104 : uD 3 cX4_rank 104 (.invokevirtual 70) 107 := ⟨by decide +kernel, rfl⟩
theorem dX4_rank_107 : uD 2 cX4_rank 107 (.iload 4) 109 := ⟨by decide +kernel, rfl⟩
theorem dX4_rank_109 : uD 1 cX4_rank 109 (.iconst (-1)) 110 := ⟨by decide +kernel, rfl⟩
theorem dX4_rank_110 : uJ cX4_rank 110 (fun o => .if_icmp .eq o) 131 113 := ⟨21, by decide +kernel, by decide, rfl⟩
theorem dX4_rank_113 : uD 1 cX4_rank 113 (.aload_n 1) 114 := ⟨by decide +kernel, rfl⟩
theorem dX4_rank_114 : uD 3 cX4_rank 114 (.getfield 27) 117 := ⟨by decide +kernel, rfl⟩
theorem dX4_rank_117 : uD 2 cX4_rank 117 (.iload 4) 119 := ⟨by decide +kernel, rfl⟩
theorem dX4_rank_119 : uD 2 cX4_rank 119 (.iload 6) 121 := ⟨by decide +kernel, rfl⟩
theorem dX4_rank_121 : uD 3 cX4_rank 121 (.invokevirtual 74) 124 := ⟨by decide +kernel, rfl⟩
theorem dX4_rank_124 : uJ cX4_rank 124 (fun o => .ifCond .eq o) 131 127 := ⟨7, by decide +kernel, by decide, rfl⟩
theorem dX4_rank_127 : uD 1 cX4_rank 127 (.iconst 1) 128 := ⟨by decide +kernel, rfl⟩
theorem dX4_rank_128 : uJ cX4_rank 128 (fun o => .goto o) 132 131 := ⟨4, by decide +kernel, by decide, rfl⟩
theorem dX4_rank_131 : uD 1 cX4_rank 131 (.iconst 0) 132 := ⟨by decide +kernel, rfl⟩
theorem dX4_rank_132 : uD 2 cX4_rank 132 (.istore 7) 134 := ⟨by decide +kernel, rfl⟩
theorem dX4_rank_134 : uD 1 cX4_rank 134 (.iload_n 3) 135 := ⟨by decide +kernel, rfl⟩
theorem dX4_rank_135 : uD 2 cX4_rank 135 (.iload 5) 137 := ⟨by decide +kernel, rfl⟩
theorem dX4_rank_137 : uD 1 cX4_rank 137 (.aload_n 1) 138 := ⟨by decide +kernel, rfl⟩
theorem dX4_rank_138 : uD 3 cX4_rank 138 (.getfield 21) 141 := ⟨by decide +kernel, rfl⟩
theorem dX4_rank_141 : uD 1 cX4_rank 141 (.aload_n 1) 142 := ⟨by decide +kernel, rfl⟩
theorem dX4_rank_142 : uD 3 cX4_rank 142 (.getfield 27) 145 := ⟨by decide +kernel, rfl⟩
theorem dX4_rank_145 : uD 1 cX4_rank 145 (.iconst 1) 146 := ⟨by decide +kernel, rfl⟩
theorem dX4_rank_146 : uD 2 cX4_rank 146 (.iload 6) 148 := ⟨by decide +kernel, rfl⟩
theorem dX4_rank_148 : uD 1 cX4_rank 148 (.ishl) 149 := ⟨by decide +kernel, rfl⟩
theorem dX4_rank_149 : uD 3 cX4_rank 149 (.invokevirtual 31) 152 := ⟨by decide +kernel, rfl⟩
theorem dX4_rank_152 : uD 1 cX4_rank 152 (.iadd) 153 := ⟨by decide +kernel, rfl⟩
theorem dX4_rank_153 : uD 3 cX4_rank 153 (.invokestatic 37) 156 := ⟨by decide +kernel, rfl⟩
theorem dX4_rank_156 : uD 2 cX4_rank 156 (.istore 5) 158 := ⟨by decide +kernel, rfl⟩
theorem dX4_rank_158 : uD 1 cX4_rank 158 (.aload_n 0) 159 := ⟨by decide +kernel, rfl⟩
theorem dX4_rank_159 : uD 1 cX4_rank 159 (.aload_n 1) 160 := ⟨by decide +kernel, rfl⟩
theorem dX4_rank_160 : uD 2 cX4_rank 160 (.iload 6) 162 := ⟨by decide +kernel, rfl⟩
theorem dX4_rank_162 : uD 2 cX4_rank 162 (.iload 7) 164 := ⟨by decide +kernel, rfl⟩
theorem dX4_rank_164 : uD 2 cX4_rank 164 (.iload 5) 166 := ⟨by decide +kernel, rfl⟩
theorem dX4_rank_166 : uD 3 cX4_rank 166 (.invokevirtual 78) 169 := ⟨by decide +kernel, rfl⟩
theorem dX4_rank_169 : uD 2 cX4_rank 169 (.iload 6) 171 := ⟨by decide +kernel, rfl⟩
theorem dX4_rank_171 : uD 2 cX4_rank 171 (.istore 4) 173 := ⟨by decide +kernel, rfl⟩
theorem dX4_rank_173 : uD 3 cX4_rank 173 (.iinc 6 1) 176 := ⟨by decide +kernel, rfl⟩
theorem dX4_rank_176 : uJ cX4_rank 176 (fun o => .goto o) 48 179 := ⟨(-128), by decide +kernel, by decide, rfl⟩
theorem dX4_rank_179 : uD 1 cX4_rank 179 (.aload_n 0) 180 := ⟨by decide +kernel, rfl⟩
theorem dX4_rank_180 : uD 2 cX4_rank 180 (.iload 5) 182 := ⟨by decide +kernel, rfl⟩
theorem dX4_rank_182 : uD 3 cX4_rank 182 (.invokevirtual 70) 185 := ⟨by decide +kernel, rfl⟩
theorem dX4_rank_185 : uD 1 cX4_rank 185 (.return_) 186 := ⟨by decide +kernel, rfl⟩
theorem dX4_leaveDevice_0 : uD 1 cX4_leaveDevice 0 (.iconst 0) 1 := ⟨by decide +kernel, rfl⟩
theorem dX4_leaveDevice_1 : uD 1 cX4_leaveDevice 1 (.istore_n 2) 2 := ⟨by decide +kernel, rfl⟩
theorem dX4_leaveDevice_2 : uD 1 cX4_leaveDevice 2 (.iload_n 2) 3 := ⟨by decide +kernel, rfl⟩
theorem dX4_leaveDevice_3 : uD 1 cX4_leaveDevice 3 (.iload_n 1) 4 := ⟨by decide +kernel, rfl⟩
theorem dX4_leaveDevice_4 : uJ cX4_leaveDevice 4 (fun o => .if_icmp .gt o) 61 7 := ⟨57, by decide +kernel, by decide, rfl⟩
theorem dX4_leaveDevice_7 : uD 1 cX4_leaveDevice 7 (.aload_n 0) 8 := ⟨by decide +kernel, rfl⟩
theorem dX4_leaveDevice_8 : uD 3 cX4_leaveDevice 8 (.getfield 11) 11 := ⟨by decide +kernel, rfl⟩
theorem dX4_leaveDevice_11 : uD 1 cX4_leaveDevice 11 (.iload_n 2) 12 := ⟨by decide +kernel, rfl⟩
theorem dX4_leaveDevice_12 : uD 1 cX4_leaveDevice 12 (.aload_n 0) 13 := ⟨by decide +kernel, rfl⟩
theorem dX4_leaveDevice_13 : uD 3 cX4_leaveDevice 13 (.getfield 11) 16 := ⟨by decide +kernel, rfl⟩
theorem dX4_leaveDevice_16 : uD 1 cX4_leaveDevice 16 (.iload_n 2) 17 := ⟨by decide +kernel, rfl⟩
theorem dX4_leaveDevice_17 : uD 1 cX4_leaveDevice 17 (.laload) 18 := ⟨by decide +kernel, rfl⟩
theorem dX4_leaveDevice_18 : uD 1 cX4_leaveDevice 18 (.aload_n 0) 19 := ⟨by decide +kernel, rfl⟩
theorem dX4_leaveDevice_19 : uD 3 cX4_leaveDevice 19 (.getfield 15) 22 := ⟨by decide +kernel, rfl⟩
theorem dX4_leaveDevice_22 : uD 1 cX4_leaveDevice 22 (.iload_n 2) 23 := ⟨by decide +kernel, rfl⟩
theorem dX4_leaveDevice_23 : uD 1 cX4_leaveDevice 23 (.laload) 24 := ⟨by decide +kernel, rfl⟩
theorem dX4_leaveDevice_24 : uD 1 cX4_leaveDevice 24 (.aload_n 0) 25 := ⟨by decide +kernel, rfl⟩
theorem dX4_leaveDevice_25 : uD 3 cX4_leaveDevice 25 (.getfield 18) 28 := ⟨by decide +kernel, rfl⟩
theorem dX4_leaveDevice_28 : uD 1 cX4_leaveDevice 28 (.iload_n 2) 29 := ⟨by decide +kernel, rfl⟩
theorem dX4_leaveDevice_29 : uD 1 cX4_leaveDevice 29 (.laload) 30 := ⟨by decide +kernel, rfl⟩
theorem dX4_leaveDevice_30 : uD 3 cX4_leaveDevice 30 (.invokestatic 82) 33 := ⟨by decide +kernel, rfl⟩
theorem dX4_leaveDevice_33 : uD 3 cX4_leaveDevice 33 (.invokestatic 82) 36 := ⟨by decide +kernel, rfl⟩
theorem dX4_leaveDevice_36 : uD 1 cX4_leaveDevice 36 (.lastore) 37 := ⟨by decide +kernel, rfl⟩
theorem dX4_leaveDevice_37 : uD 1 cX4_leaveDevice 37 (.aload_n 0) 38 := ⟨by decide +kernel, rfl⟩
theorem dX4_leaveDevice_38 : uD 3 cX4_leaveDevice 38 (.getfield 15) 41 := ⟨by decide +kernel, rfl⟩
theorem dX4_leaveDevice_41 : uD 1 cX4_leaveDevice 41 (.iload_n 2) 42 := ⟨by decide +kernel, rfl⟩
theorem dX4_leaveDevice_42 : uD 3 cX4_leaveDevice 42 (.ldc2_w 52) 45 := ⟨by decide +kernel, rfl⟩
theorem dX4_leaveDevice_45 : uD 1 cX4_leaveDevice 45 (.lastore) 46 := ⟨by decide +kernel, rfl⟩
theorem dX4_leaveDevice_46 : uD 1 cX4_leaveDevice 46 (.aload_n 0) 47 := ⟨by decide +kernel, rfl⟩
theorem dX4_leaveDevice_47 : uD 3 cX4_leaveDevice 47 (.getfield 18) 50 := ⟨by decide +kernel, rfl⟩
theorem dX4_leaveDevice_50 : uD 1 cX4_leaveDevice 50 (.iload_n 2) 51 := ⟨by decide +kernel, rfl⟩
theorem dX4_leaveDevice_51 : uD 3 cX4_leaveDevice 51 (.ldc2_w 52) 54 := ⟨by decide +kernel, rfl⟩
theorem dX4_leaveDevice_54 : uD 1 cX4_leaveDevice 54 (.lastore) 55 := ⟨by decide +kernel, rfl⟩
theorem dX4_leaveDevice_55 : uD 3 cX4_leaveDevice 55 (.iinc 2 1) 58 := ⟨by decide +kernel, rfl⟩
theorem dX4_leaveDevice_58 : uJ cX4_leaveDevice 58 (fun o => .goto o) 2 61 := ⟨(-56), by decide +kernel, by decide, rfl⟩
theorem dX4_leaveDevice_61 : uD 1 cX4_leaveDevice 61 (.return_) 62 := ⟨by decide +kernel, rfl⟩
theorem dX4_considerBlock_0 : uD 1 cX4_considerBlock 0 (.aload_n 1) 1 := ⟨by decide +kernel, rfl⟩
theorem dX4_considerBlock_1 : uD 3 cX4_considerBlock 1 (.getfield 27) 4 := ⟨by decide +kernel, rfl⟩
theorem dX4_considerBlock_4 : uD 3 cX4_considerBlock 4 (.getfield 66) 7 := ⟨by decide +kernel, rfl⟩
theorem dX4_considerBlock_7 : uD 1 cX4_considerBlock 7 (.iload_n 2) 8 := ⟨by decide +kernel, rfl⟩
theorem dX4_considerBlock_8 : uD 1 cX4_considerBlock 8 (.iaload) 9 := ⟨by decide +kernel, rfl⟩
theorem dX4_considerBlock_9 : uD 2 cX4_considerBlock 9 (.istore 5) 11 := ⟨by decide +kernel, rfl⟩
theorem dX4_considerBlock_11 : uD 1 cX4_considerBlock 11 (.aload_n 1) 12 := ⟨by decide +kernel, rfl⟩
theorem dX4_considerBlock_12 : uD 3 cX4_considerBlock 12 (.getfield 21) 15 := ⟨by decide +kernel, rfl⟩
theorem dX4_considerBlock_15 : uD 3 cX4_considerBlock 15 (.getfield 85) 18 := ⟨by decide +kernel, rfl⟩
theorem dX4_considerBlock_18 : uD 2 cX4_considerBlock 18 (.iload 5) 20 := ⟨by decide +kernel, rfl⟩
theorem dX4_considerBlock_20 : uD 1 cX4_considerBlock 20 (.iaload) 21 := ⟨by decide +kernel, rfl⟩
theorem dX4_considerBlock_21 : uD 2 cX4_considerBlock 21 (.istore 6) 23 := ⟨by decide +kernel, rfl⟩
theorem dX4_considerBlock_23 : uD 2 cX4_considerBlock 23 (.iload 6) 25 := ⟨by decide +kernel, rfl⟩
theorem dX4_considerBlock_25 : uD 1 cX4_considerBlock 25 (.aload_n 1) 26 := ⟨by decide +kernel, rfl⟩
theorem dX4_considerBlock_26 : uD 3 cX4_considerBlock 26 (.getfield 21) 29 := ⟨by decide +kernel, rfl⟩
theorem dX4_considerBlock_29 : uD 3 cX4_considerBlock 29 (.getfield 88) 32 := ⟨by decide +kernel, rfl⟩
theorem dX4_considerBlock_32 : uD 2 cX4_considerBlock 32 (.iload 5) 34 := ⟨by decide +kernel, rfl⟩
theorem dX4_considerBlock_34 : uD 1 cX4_considerBlock 34 (.iaload) 35 := ⟨by decide +kernel, rfl⟩
theorem dX4_considerBlock_35 : uD 1 cX4_considerBlock 35 (.iadd) 36 := ⟨by decide +kernel, rfl⟩
theorem dX4_considerBlock_36 : uD 2 cX4_considerBlock 36 (.istore 7) 38 := ⟨by decide +kernel, rfl⟩
theorem dX4_considerBlock_38 : uD 2 cX4_considerBlock 38 (.iload 7) 40 := ⟨by decide +kernel, rfl⟩
theorem dX4_considerBlock_40 : uD 1 cX4_considerBlock 40 (.aload_n 1) 41 := ⟨by decide +kernel, rfl⟩
theorem dX4_considerBlock_41 : uD 3 cX4_considerBlock 41 (.getfield 21) 44 := ⟨by decide +kernel, rfl⟩
theorem dX4_considerBlock_44 : uD 3 cX4_considerBlock 44 (.getfield 91) 47 := ⟨by decide +kernel, rfl⟩
theorem dX4_considerBlock_47 : uD 2 cX4_considerBlock 47 (.iload 5) 49 := ⟨by decide +kernel, rfl⟩
theorem dX4_considerBlock_49 : uD 1 cX4_considerBlock 49 (.iaload) 50 := ⟨by decide +kernel, rfl⟩
theorem dX4_considerBlock_50 : uD 1 cX4_considerBlock 50 (.iadd) 51 := ⟨by decide +kernel, rfl⟩
theorem dX4_considerBlock_51 : uD 2 cX4_considerBlock 51 (.istore 8) 53 := ⟨by decide +kernel, rfl⟩
theorem dX4_considerBlock_53 : uD 1 cX4_considerBlock 53 (.aload_n 1) 54 := ⟨by decide +kernel, rfl⟩
theorem dX4_considerBlock_54 : uD 3 cX4_considerBlock 54 (.getfield 27) 57 := ⟨by decide +kernel, rfl⟩
theorem dX4_considerBlock_57 : uD 3 cX4_considerBlock 57 (.getfield 94) 60 := ⟨by decide +kernel, rfl⟩
theorem dX4_considerBlock_60 : uD 1 cX4_considerBlock 60 (.iload_n 2) 61 := ⟨by decide +kernel, rfl⟩
theorem dX4_considerBlock_61 : uD 1 cX4_considerBlock 61 (.iaload) 62 := ⟨by decide +kernel, rfl⟩
theorem dX4_considerBlock_62 : uD 1 cX4_considerBlock 62 (.i2l) 63 := ⟨by decide +kernel, rfl⟩
theorem dX4_considerBlock_63 : uD 2 cX4_considerBlock 63 (.bipush 24) 65 := ⟨by decide +kernel, rfl⟩
theorem dX4_considerBlock_65 : uD 1 cX4_considerBlock 65 (.lshl) 66 := ⟨by decide +kernel, rfl⟩
theorem dX4_considerBlock_66 : uD 1 cX4_considerBlock 66 (.lconst 1) 67 := ⟨by decide +kernel, rfl⟩
theorem dX4_considerBlock_67 : uD 1 cX4_considerBlock 67 (.iload_n 2) 68 := ⟨by decide +kernel, rfl⟩
theorem dX4_considerBlock_68 : uD 1 cX4_considerBlock 68 (.lshl) 69 := ⟨by decide +kernel, rfl⟩
theorem dX4_considerBlock_69 : uD 1 cX4_considerBlock 69 (.lsub) 70 := ⟨by decide +kernel, rfl⟩
theorem dX4_considerBlock_70 : uD 2 cX4_considerBlock 70 (.lstore 9) 72 := ⟨by decide +kernel, rfl⟩
theorem dX4_considerBlock_72 : uD 2 cX4_considerBlock 72 (.iload 4) 74 := ⟨by decide +kernel, rfl⟩
theorem dX4_considerBlock_74 : uD 2 cX4_considerBlock 74 (.istore 11) 76 := ⟨by decide +kernel, rfl⟩
theorem dX4_considerBlock_76 : uD 2 cX4_considerBlock 76 (.iload 11) 78 := ⟨by decide +kernel, rfl⟩
theorem dX4_considerBlock_78 : uJ cX4_considerBlock 78 (fun o => .ifCond .lt o) 193 81 := ⟨115, by decide +kernel, by decide, rfl⟩
theorem dX4_considerBlock_81 : uD 1 cX4_considerBlock 81 (.aload_n 0) 82 := ⟨by decide +kernel, rfl⟩
theorem dX4_considerBlock_82 : uD 3 cX4_considerBlock 82 (.getfield 11) 85 := ⟨by decide +kernel, rfl⟩
theorem dX4_considerBlock_85 : uD 2 cX4_considerBlock 85 (.iload 11) 87 := ⟨by decide +kernel, rfl⟩
theorem dX4_considerBlock_87 : uD 2 cX4_considerBlock 87 (.iload 8) 89 := ⟨by decide +kernel, rfl⟩
theorem dX4_considerBlock_89 : uD 1 cX4_considerBlock 89 (.isub) 90 := ⟨by decide +kernel, rfl⟩
theorem dX4_considerBlock_90 : uD 3 cX4_considerBlock 90 (.invokestatic 97) 93 := ⟨by decide +kernel, rfl⟩
theorem dX4_considerBlock_93 : uD 1 cX4_considerBlock 93 (.aload_n 0) 94 := ⟨by decide +kernel, rfl⟩
theorem dX4_considerBlock_94 : uD 3 cX4_considerBlock 94 (.getfield 15) 97 := ⟨by decide +kernel, rfl⟩
theorem dX4_considerBlock_97 : uD 2 cX4_considerBlock 97 (.iload 11) 99 := ⟨by decide +kernel, rfl⟩
theorem dX4_considerBlock_99 : uD 2 cX4_considerBlock 99 (.iload 7) 101 := ⟨by decide +kernel, rfl⟩
theorem dX4_considerBlock_101 : uD 1 cX4_considerBlock 101 (.isub) 102 := ⟨by decide +kernel, rfl⟩
theorem dX4_considerBlock_102 : uD 3 cX4_considerBlock 102 (.invokestatic 97) 105 := ⟨by decide +kernel, rfl⟩
theorem dX4_considerBlock_105 : uD 3 cX4_considerBlock 105 (.invokestatic 82) 108 := ⟨by decide +kernel, rfl⟩
theorem dX4_considerBlock_108 : uD 2 cX4_considerBlock 108 (.lstore 12) 110 := ⟨by decide +kernel, rfl⟩
theorem dX4_considerBlock_110 : uD 2 cX4_considerBlock 110 (.lload 12) 112 := ⟨by decide +kernel, rfl⟩
theorem dX4_considerBlock_112 : uD 1 cX4_considerBlock 112 (.aload_n 0) 113 := ⟨by decide +kernel, rfl⟩
theorem dX4_considerBlock_113 : uD 3 cX4_considerBlock 113 (.getfield 18) 116 := ⟨by decide +kernel, rfl⟩
theorem dX4_considerBlock_116 : uD 2 cX4_considerBlock 116 (.iload 11) 118 := ⟨by decide +kernel, rfl⟩
theorem dX4_considerBlock_118 : uD 1 cX4_considerBlock 118 (.iload_n 3) 119 := ⟨by decide +kernel, rfl⟩
theorem dX4_considerBlock_119 : uJ cX4_considerBlock 119 (fun o => .ifCond .eq o) 127 122 := ⟨8, by decide +kernel, by decide, rfl⟩
theorem dX4_considerBlock_122 : uD 2 cX4_considerBlock 122 (.iload 6) 124 := ⟨by decide +kernel, rfl⟩
theorem dX4_considerBlock_124 : uJ cX4_considerBlock 124 (fun o => .goto o) 129 127 := ⟨5, by decide +kernel, by decide, rfl⟩
theorem dX4_considerBlock_127 : uD 2 cX4_considerBlock 127 (.iload 7) 129 := ⟨by decide +kernel, rfl⟩
theorem dX4_considerBlock_129 : uD 1 cX4_considerBlock 129 (.isub) 130 := ⟨by decide +kernel, rfl⟩
theorem dX4_considerBlock_130 : uD 3 cX4_considerBlock 130 (.invokestatic 97) 133 := ⟨by decide +kernel, rfl⟩
theorem dX4_considerBlock_133 : uD 3 cX4_considerBlock 133 (.invokestatic 82) 136 := ⟨by decide +kernel, rfl⟩
theorem dX4_considerBlock_136 : uD 2 cX4_considerBlock 136 (.lstore 12) 138 := ⟨by decide +kernel, rfl⟩
theorem dX4_considerBlock_138 : uD 1 cX4_considerBlock 138 (.aload_n 0) 139 := ⟨by decide +kernel, rfl⟩
theorem dX4_considerBlock_139 : uD 3 cX4_considerBlock 139 (.getfield 15) 142 := ⟨by decide +kernel, rfl⟩
theorem dX4_considerBlock_142 : uD 2 cX4_considerBlock 142 (.iload 11) 144 := ⟨by decide +kernel, rfl⟩
theorem dX4_considerBlock_144 : uD 1 cX4_considerBlock 144 (.aload_n 0) 145 := ⟨by decide +kernel, rfl⟩
theorem dX4_considerBlock_145 : uD 3 cX4_considerBlock 145 (.getfield 15) 148 := ⟨by decide +kernel, rfl⟩
theorem dX4_considerBlock_148 : uD 2 cX4_considerBlock 148 (.iload 11) 150 := ⟨by decide +kernel, rfl⟩
theorem dX4_considerBlock_150 : uD 1 cX4_considerBlock 150 (.laload) 151 := ⟨by decide +kernel, rfl⟩
theorem dX4_considerBlock_151 : uD 1 cX4_considerBlock 151 (.aload_n 0) 152 := ⟨by decide +kernel, rfl⟩
theorem dX4_considerBlock_152 : uD 3 cX4_considerBlock 152 (.getfield 18) 155 := ⟨by decide +kernel, rfl⟩
theorem dX4_considerBlock_155 : uD 2 cX4_considerBlock 155 (.iload 11) 157 := ⟨by decide +kernel, rfl⟩
theorem dX4_considerBlock_157 : uD 1 cX4_considerBlock 157 (.laload) 158 := ⟨by decide +kernel, rfl⟩
theorem dX4_considerBlock_158 : uD 3 cX4_considerBlock 158 (.invokestatic 82) 161 := ⟨by decide +kernel, rfl⟩
theorem dX4_considerBlock_161 : uD 1 cX4_considerBlock 161 (.lastore) 162 := ⟨by decide +kernel, rfl⟩
theorem dX4_considerBlock_162 : uD 1 cX4_considerBlock 162 (.aload_n 0) 163 := ⟨by decide +kernel, rfl⟩
theorem dX4_considerBlock_163 : uD 3 cX4_considerBlock 163 (.getfield 18) 166 := ⟨by decide +kernel, rfl⟩
theorem dX4_considerBlock_166 : uD 2 cX4_considerBlock 166 (.iload 11) 168 := ⟨by decide +kernel, rfl⟩
theorem dX4_considerBlock_168 : uD 2 cX4_considerBlock 168 (.lload 12) 170 := ⟨by decide +kernel, rfl⟩
theorem dX4_considerBlock_170 : uD 1 cX4_considerBlock 170 (.lconst 0) 171 := ⟨by decide +kernel, rfl⟩
theorem dX4_considerBlock_171 : uD 1 cX4_considerBlock 171 (.lcmp) 172 := ⟨by decide +kernel, rfl⟩
theorem dX4_considerBlock_172 : uJ cX4_considerBlock 172 (fun o => .ifCond .ge o) 181 175 := ⟨9, by decide +kernel, by decide, rfl⟩
theorem dX4_considerBlock_175 : uD 3 cX4_considerBlock 175 (.ldc2_w 52) 178 := ⟨by decide +kernel, rfl⟩
theorem dX4_considerBlock_178 : uJ cX4_considerBlock 178 (fun o => .goto o) 186 181 := ⟨8, by decide +kernel, by decide, rfl⟩
theorem dX4_considerBlock_181 : uD 2 cX4_considerBlock 181 (.lload 12) 183 := ⟨by decide +kernel, rfl⟩
theorem dX4_considerBlock_183 : uD 2 cX4_considerBlock 183 (.lload 9) 185 := ⟨by decide +kernel, rfl⟩
theorem dX4_considerBlock_185 : uD 1 cX4_considerBlock 185 (.ladd) 186 := ⟨by decide +kernel, rfl⟩
theorem dX4_considerBlock_186 : uD 1 cX4_considerBlock 186 (.lastore) 187 := ⟨by decide +kernel, rfl⟩
theorem dX4_considerBlock_187 : uD 3 cX4_considerBlock 187 (.iinc 11 (-1)) 190 := ⟨by decide +kernel, rfl⟩
theorem dX4_considerBlock_190 : uJ cX4_considerBlock 190 (fun o => .goto o) 76 193 := ⟨(-114), by decide +kernel, by decide, rfl⟩
theorem dX4_considerBlock_193 : uD 1 cX4_considerBlock 193 (.return_) 194 := ⟨by decide +kernel, rfl⟩
theorem dX4_rankAt_0 : uD 1 cX4_rankAt 0 (.iload_n 1) 1 := ⟨by decide +kernel, rfl⟩
theorem dX4_rankAt_1 : uJ cX4_rankAt 1 (fun o => .ifCond .lt o) 16 4 := ⟨15, by decide +kernel, by decide, rfl⟩
theorem dX4_rankAt_4 : uD 1 cX4_rankAt 4 (.iload_n 1) 5 := ⟨by decide +kernel, rfl⟩
theorem dX4_rankAt_5 : uD 1 cX4_rankAt 5 (.aload_n 0) 6 := ⟨by decide +kernel, rfl⟩
theorem dX4_rankAt_6 : uD 1 cX4_rankAt 6 (.arraylength) 7 := ⟨by decide +kernel, rfl⟩
theorem dX4_rankAt_7 : uJ cX4_rankAt 7 (fun o => .if_icmp .ge o) 16 10 := ⟨9, by decide +kernel, by decide, rfl⟩
theorem dX4_rankAt_10 : uD 1 cX4_rankAt 10 (.aload_n 0) 11 := ⟨by decide +kernel, rfl⟩
theorem dX4_rankAt_11 : uD 1 cX4_rankAt 11 (.iload_n 1) 12 := ⟨by decide +kernel, rfl⟩
theorem dX4_rankAt_12 : uD 1 cX4_rankAt 12 (.laload) 13 := ⟨by decide +kernel, rfl⟩
theorem dX4_rankAt_13 : uJ cX4_rankAt 13 (fun o => .goto o) 19 16 := ⟨6, by decide +kernel, by decide, rfl⟩
theorem dX4_rankAt_16 : uD 3 cX4_rankAt 16 (.ldc2_w 52) 19 := ⟨by decide +kernel, rfl⟩
theorem dX4_rankAt_19 : uD 1 cX4_rankAt 19 (.lreturn) 20 := ⟨by decide +kernel, rfl⟩
theorem dX5_init_0 : uD 1 cX5_init 0 (.aload_n 0) 1 := ⟨by decide +kernel, rfl⟩
theorem dX5_init_1 : uD 3 cX5_init 1 (.invokespecial 3) 4 := ⟨by decide +kernel, rfl⟩
theorem dX5_init_4 : uD 1 cX5_init 4 (.aload_n 0) 5 := ⟨by decide +kernel, rfl⟩
theorem dX5_init_5 : uD 3 cX5_init 5 (.sipush 400) 8 := ⟨by decide +kernel, rfl⟩
theorem dX5_init_8 : uD 2 cX5_init 8 (.newarray .byte) 10 := ⟨by decide +kernel, rfl⟩
theorem dX5_init_10 : uD 3 cX5_init 10 (.putfield 9) 13 := ⟨by decide +kernel, rfl⟩
theorem dX5_init_13 : uD 1 cX5_init 13 (.aload_n 0) 14 := ⟨by decide +kernel, rfl⟩
theorem dX5_init_14 : uD 1 cX5_init 14 (.iconst 0) 15 := ⟨by decide +kernel, rfl⟩
theorem dX5_init_15 : uD 3 cX5_init 15 (.putfield 15) 18 := ⟨by decide +kernel, rfl⟩
theorem dX5_init_18 : uD 1 cX5_init 18 (.aload_n 0) 19 := ⟨by decide +kernel, rfl⟩
theorem dX5_init_19 : uD 1 cX5_init 19 (.iconst 0) 20 := ⟨by decide +kernel, rfl⟩
theorem dX5_init_20 : uD 3 cX5_init 20 (.putfield 19) 23 := ⟨by decide +kernel, rfl⟩
theorem dX5_init_23 : uD 1 cX5_init 23 (.aload_n 0) 24 := ⟨by decide +kernel, rfl⟩
theorem dX5_init_24 : uD 1 cX5_init 24 (.iconst (-1)) 25 := ⟨by decide +kernel, rfl⟩
theorem dX5_init_25 : uD 3 cX5_init 25 (.putfield 22) 28 := ⟨by decide +kernel, rfl⟩
theorem dX5_init_28 : uD 1 cX5_init 28 (.aload_n 0) 29 := ⟨by decide +kernel, rfl⟩
theorem dX5_init_29 : uD 1 cX5_init 29 (.iconst 0) 30 := ⟨by decide +kernel, rfl⟩
theorem dX5_init_30 : uD 3 cX5_init 30 (.putfield 25) 33 := ⟨by decide +kernel, rfl⟩
theorem dX5_init_33 : uD 1 cX5_init 33 (.aload_n 0) 34 := ⟨by decide +kernel, rfl⟩
theorem dX5_init_34 : uD 1 cX5_init 34 (.iconst 0) 35 := ⟨by decide +kernel, rfl⟩
theorem dX5_init_35 : uD 3 cX5_init 35 (.putfield 28) 38 := ⟨by decide +kernel, rfl⟩
theorem dX5_init_38 : uD 1 cX5_init 38 (.aload_n 0) 39 := ⟨by decide +kernel, rfl⟩
theorem dX5_init_39 : uD 1 cX5_init 39 (.iconst 0) 40 := ⟨by decide +kernel, rfl⟩
theorem dX5_init_40 : uD 3 cX5_init 40 (.putfield 31) 43 := ⟨by decide +kernel, rfl⟩
theorem dX5_init_43 : uD 1 cX5_init 43 (.return_) 44 := ⟨by decide +kernel, rfl⟩
theorem dX5_addBytesOf_0 : uD 2 cX5_addBytesOf 0 (.bipush 24) 2 := ⟨by decide +kernel, rfl⟩
theorem dX5_addBytesOf_2 : uD 1 cX5_addBytesOf 2 (.istore_n 2) 3 := ⟨by decide +kernel, rfl⟩
theorem dX5_addBytesOf_3 : uD 1 cX5_addBytesOf 3 (.iload_n 2) 4 := ⟨by decide +kernel, rfl⟩
theorem dX5_addBytesOf_4 : uJ cX5_addBytesOf 4 (fun o => .ifCond .lt o) 46 7 := ⟨42, by decide +kernel, by decide, rfl⟩
theorem dX5_addBytesOf_7 : uD 1 cX5_addBytesOf 7 (.aload_n 0) 8 := ⟨by decide +kernel, rfl⟩
theorem dX5_addBytesOf_8 : uD 3 cX5_addBytesOf 8 (.getfield 15) 11 := ⟨by decide +kernel, rfl⟩
theorem dX5_addBytesOf_11 : uD 3 cX5_addBytesOf 11 (.sipush 400) 14 := ⟨by decide +kernel, rfl⟩
theorem dX5_addBytesOf_14 : uJ cX5_addBytesOf 14 (fun o => .if_icmp .ge o) 46 17 := ⟨32, by decide +kernel, by decide, rfl⟩
theorem dX5_addBytesOf_17 : uD 1 cX5_addBytesOf 17 (.aload_n 0) 18 := ⟨by decide +kernel, rfl⟩
theorem dX5_addBytesOf_18 : uD 3 cX5_addBytesOf 18 (.getfield 9) 21 := ⟨by decide +kernel, rfl⟩
theorem dX5_addBytesOf_21 : uD 1 cX5_addBytesOf 21 (.aload_n 0) 22 := ⟨by decide +kernel, rfl⟩
theorem dX5_addBytesOf_22 : uD 3 cX5_addBytesOf 22 (.getfield 15) 25 := ⟨by decide +kernel, rfl⟩
theorem dX5_addBytesOf_25 : uD 1 cX5_addBytesOf 25 (.iload_n 1) 26 := ⟨by decide +kernel, rfl⟩
theorem dX5_addBytesOf_26 : uD 1 cX5_addBytesOf 26 (.iload_n 2) 27 := ⟨by decide +kernel, rfl⟩
theorem dX5_addBytesOf_27 : uD 1 cX5_addBytesOf 27 (.ishr) 28 := ⟨by decide +kernel, rfl⟩
theorem dX5_addBytesOf_28 : uD 1 cX5_addBytesOf 28 (.i2b) 29 := ⟨by decide +kernel, rfl⟩
theorem dX5_addBytesOf_29 : uD 1 cX5_addBytesOf 29 (.bastore) 30 := ⟨by decide +kernel, rfl⟩
theorem dX5_addBytesOf_30 : uD 1 cX5_addBytesOf 30 (.aload_n 0) 31 := ⟨by decide +kernel, rfl⟩
theorem dX5_addBytesOf_31 : uD 1 cX5_addBytesOf 31 (.dup) 32 := ⟨by decide +kernel, rfl⟩
theorem dX5_addBytesOf_32 : uD 3 cX5_addBytesOf 32 (.getfield 15) 35 := ⟨by decide +kernel, rfl⟩
theorem dX5_addBytesOf_35 : uD 1 cX5_addBytesOf 35 (.iconst 1) 36 := ⟨by decide +kernel, rfl⟩
theorem dX5_addBytesOf_36 : uD 1 cX5_addBytesOf 36 (.iadd) 37 := ⟨by decide +kernel, rfl⟩
theorem dX5_addBytesOf_37 : uD 3 cX5_addBytesOf 37 (.putfield 15) 40 := ⟨by decide +kernel, rfl⟩
theorem dX5_addBytesOf_40 : uD 3 cX5_addBytesOf 40 (.iinc 2 (-8)) 43 := ⟨by decide +kernel, rfl⟩
theorem dX5_addBytesOf_43 : uJ cX5_addBytesOf 43 (fun o => .goto o) 3 46 := ⟨(-40), by decide +kernel, by decide, rfl⟩
theorem dX5_addBytesOf_46 : uD 1 cX5_addBytesOf 46 (.return_) 47 := ⟨by decide +kernel, rfl⟩
theorem dX5_readInto_0 : uD 1 cX5_readInto 0 (.aload_n 0) 1 := ⟨by decide +kernel, rfl⟩
theorem dX5_readInto_1 : uD 1 cX5_readInto 1 (.iconst 0) 2 := ⟨by decide +kernel, rfl⟩
theorem dX5_readInto_2 : uD 3 cX5_readInto 2 (.putfield 19) 5 := ⟨by decide +kernel, rfl⟩
theorem dX5_readInto_5 : uD 1 cX5_readInto 5 (.aload_n 0) 6 := ⟨by decide +kernel, rfl⟩
theorem dX5_readInto_6 : uD 1 cX5_readInto 6 (.iconst (-1)) 7 := ⟨by decide +kernel, rfl⟩
theorem dX5_readInto_7 : uD 3 cX5_readInto 7 (.putfield 22) 10 := ⟨by decide +kernel, rfl⟩
theorem dX5_readInto_10 : uD 1 cX5_readInto 10 (.aload_n 0) 11 := ⟨by decide +kernel, rfl⟩
theorem dX5_readInto_11 : uD 1 cX5_readInto 11 (.iconst 0) 12 := ⟨by decide +kernel, rfl⟩
theorem dX5_readInto_12 : uD 3 cX5_readInto 12 (.putfield 31) 15 := ⟨by decide +kernel, rfl⟩
theorem dX5_readInto_15 : uD 1 cX5_readInto 15 (.aload_n 1) 16 := ⟨by decide +kernel, rfl⟩
theorem dX5_readInto_16 : uD 3 cX5_readInto 16 (.getfield 34) 19 := ⟨by decide +kernel, rfl⟩
theorem dX5_readInto_19 : uD 3 cX5_readInto 19 (.invokevirtual 40) 22 := ⟨by decide +kernel, rfl⟩
theorem dX5_readInto_22 : uD 1 cX5_readInto 22 (.aload_n 1) 23 := ⟨by decide +kernel, rfl⟩
theorem dX5_readInto_23 : uD 3 cX5_readInto 23 (.getfield 45) 26 := ⟨by decide +kernel, rfl⟩
theorem dX5_readInto_26 : uD 1 cX5_readInto 26 (.iconst 0) 27 := ⟨by decide +kernel, rfl⟩
theorem dX5_readInto_27 : uD 3 cX5_readInto 27 (.putfield 49) 30 := ⟨by decide +kernel, rfl⟩
theorem dX5_readInto_30 : uD 1 cX5_readInto 30 (.aload_n 0) 31 := ⟨by decide +kernel, rfl⟩
theorem dX5_readInto_31 : uD 3 cX5_readInto 31 (.invokevirtual 54) 34 := ⟨by decide +kernel, rfl⟩
theorem dX5_readInto_34 : uD 1 cX5_readInto 34 (.aload_n 0) 35 := ⟨by decide +kernel, rfl⟩
theorem dX5_readInto_35 : uD 1 cX5_readInto 35 (.aload_n 1) 36 := ⟨by decide +kernel, rfl⟩
theorem dX5_readInto_36 : uD 3 cX5_readInto 36 (.getfield 57) 39 := ⟨by decide +kernel, rfl⟩
theorem dX5_readInto_39 : uD 3 cX5_readInto 39 (.invokevirtual 61) 42 := ⟨by decide +kernel, rfl⟩
theorem dX5_readInto_42 : uD 1 cX5_readInto 42 (.aload_n 0) 43 := ⟨by decide +kernel, rfl⟩
theorem dX5_readInto_43 : uD 1 cX5_readInto 43 (.aload_n 1) 44 := ⟨by decide +kernel, rfl⟩
theorem dX5_readInto_44 : uD 3 cX5_readInto 44 (.getfield 34) 47 := ⟨by decide +kernel, rfl⟩
theorem dX5_readInto_47 : uD 3 cX5_readInto 47 (.invokevirtual 65) 50 := ⟨by decide +kernel, rfl⟩
theorem dX5_readInto_50 : uD 1 cX5_readInto 50 (.aload_n 0) 51 := ⟨by decide +kernel, rfl⟩
theorem dX5_readInto_51 : uD 1 cX5_readInto 51 (.aload_n 1) 52 := ⟨by decide +kernel, rfl⟩
theorem dX5_readInto_52 : uD 3 cX5_readInto 52 (.getfield 45) 55 := ⟨by decide +kernel, rfl⟩
theorem dX5_readInto_55 : uD 3 cX5_readInto 55 (.invokevirtual 69) 58 := ⟨by decide +kernel, rfl⟩
theorem dX5_readInto_58 : uD 1 cX5_readInto 58 (.aload_n 0) 59 := ⟨by decide +kernel, rfl⟩
theorem dX5_readInto_59 : uD 3 cX5_readInto 59 (.getfield 25) 62 := ⟨by decide +kernel, rfl⟩
theorem dX5_readInto_62 : uJ cX5_readInto 62 (fun o => .ifCond .eq o) 70 65 := ⟨8, by decide +kernel, by decide, rfl⟩
theorem dX5_readInto_65 : uD 1 cX5_readInto 65 (.aload_n 0) 66 := ⟨by decide +kernel, rfl⟩
theorem dX5_readInto_66 : uD 1 cX5_readInto 66 (.iconst 1) 67 := ⟨by decide +kernel, rfl⟩
theorem dX5_readInto_67 : uD 3 cX5_readInto 67 (.invokevirtual 73) 70 := ⟨by decide +kernel, rfl⟩
theorem dX5_readInto_70 : uD 1 cX5_readInto 70 (.return_) 71 := ⟨by decide +kernel, rfl⟩
theorem dX5_readBattery_0 : uD 1 cX5_readBattery 0 (.aload_n 0) 1 := ⟨by decide +kernel, rfl⟩
theorem dX5_readBattery_1 : uD 2 cX5_readBattery 1 (.ldc 77) 3 := ⟨by decide +kernel, rfl⟩
theorem dX5_readBattery_3 : uD 3 cX5_readBattery 3 (.invokevirtual 78) 6 := ⟨by decide +kernel, rfl⟩
theorem dX5_readBattery_6 : uD 1 cX5_readBattery 6 (.aload_n 1) 7 := ⟨by decide +kernel, rfl⟩
theorem dX5_readBattery_7 : uD 1 cX5_readBattery 7 (.aload_n 0) 8 := ⟨by decide +kernel, rfl⟩
theorem dX5_readBattery_8 : uD 1 cX5_readBattery 8 (.iconst 1) 9 := ⟨by decide +kernel, rfl⟩
theorem dX5_readBattery_9 : uD 3 cX5_readBattery 9 (.sipush 500) 12 := ⟨by decide +kernel, rfl⟩
theorem dX5_readBattery_12 : uD 3 cX5_readBattery 12 (.invokevirtual 82) 15 := ⟨by decide +kernel, rfl⟩
theorem dX5_readBattery_15 : uD 3 cX5_readBattery 15 (.putfield 86) 18 := ⟨by decide +kernel, rfl⟩
theorem dX5_readBattery_18 : uD 1 cX5_readBattery 18 (.aload_n 1) 19 := ⟨by decide +kernel, rfl⟩
theorem dX5_readBattery_19 : uD 1 cX5_readBattery 19 (.aload_n 0) 20 := ⟨by decide +kernel, rfl⟩
theorem dX5_readBattery_20 : uD 1 cX5_readBattery 20 (.iconst 0) 21 := ⟨by decide +kernel, rfl⟩
theorem dX5_readBattery_21 : uD 1 cX5_readBattery 21 (.aload_n 1) 22 := ⟨by decide +kernel, rfl⟩
theorem dX5_readBattery_22 : uD 3 cX5_readBattery 22 (.getfield 86) 25 := ⟨by decide +kernel, rfl⟩
theorem dX5_readBattery_25 : uD 3 cX5_readBattery 25 (.invokevirtual 82) 28 := ⟨by decide +kernel, rfl⟩
theorem dX5_readBattery_28 : uD 3 cX5_readBattery 28 (.putfield 91) 31 := ⟨by decide +kernel, rfl⟩
theorem dX5_readBattery_31 : uD 1 cX5_readBattery 31 (.aload_n 1) 32 := ⟨by decide +kernel, rfl⟩
theorem dX5_readBattery_32 : uD 1 cX5_readBattery 32 (.aload_n 0) 33 := ⟨by decide +kernel, rfl⟩
theorem dX5_readBattery_33 : uD 1 cX5_readBattery 33 (.iconst 0) 34 := ⟨by decide +kernel, rfl⟩
theorem dX5_readBattery_34 : uD 2 cX5_readBattery 34 (.bipush 50) 36 := ⟨by decide +kernel, rfl⟩
theorem dX5_readBattery_36 : uD 3 cX5_readBattery 36 (.invokevirtual 82) 39 := ⟨by decide +kernel, rfl⟩
theorem dX5_readBattery_39 : uD 3 cX5_readBattery 39 (.putfield 94) 42 := ⟨by decide +kernel, rfl⟩
theorem dX5_readBattery_42 : uD 1 cX5_readBattery 42 (.aload_n 1) 43 := ⟨by decide +kernel, rfl⟩
theorem dX5_readBattery_43 : uD 1 cX5_readBattery 43 (.aload_n 0) 44 := ⟨by decide +kernel, rfl⟩
theorem dX5_readBattery_44 : uD 1 cX5_readBattery 44 (.iconst 1) 45 := ⟨by decide +kernel, rfl⟩
theorem dX5_readBattery_45 : uD 2 cX5_readBattery 45 (.bipush 50) 47 := ⟨by decide +kernel, rfl⟩
theorem dX5_readBattery_47 : uD 3 cX5_readBattery 47 (.invokevirtual 82) 50 := ⟨by decide +kernel, rfl⟩
theorem dX5_readBattery_50 : uD 3 cX5_readBattery 50 (.putfield 97) 53 := ⟨by decide +kernel, rfl⟩
theorem dX5_readBattery_53 : uD 1 cX5_readBattery 53 (.aload_n 1) 54 := ⟨by decide +kernel, rfl⟩
theorem dX5_readBattery_54 : uD 1 cX5_readBattery 54 (.aload_n 0) 55 := ⟨by decide +kernel, rfl⟩
theorem dX5_readBattery_55 : uD 1 cX5_readBattery 55 (.iconst 1) 56 := ⟨by decide +kernel, rfl⟩
theorem dX5_readBattery_56 : uD 3 cX5_readBattery 56 (.sipush 1000) 59 := ⟨by decide +kernel, rfl⟩
theorem dX5_readBattery_59 : uD 3 cX5_readBattery 59 (.invokevirtual 82) 62 := ⟨by decide +kernel, rfl⟩
theorem dX5_readBattery_62 : uD 3 cX5_readBattery 62 (.putfield 100) 65 := ⟨by decide +kernel, rfl⟩
theorem dX5_readBattery_65 : uD 1 cX5_readBattery 65 (.aload_n 0) 66 := ⟨by decide +kernel, rfl⟩
theorem dX5_readBattery_66 : uD 3 cX5_readBattery 66 (.invokevirtual 103) 69 := ⟨by decide +kernel, rfl⟩
theorem dX5_readBattery_69 : uD 1 cX5_readBattery 69 (.return_) 70 := ⟨by decide +kernel, rfl⟩
theorem dX5_readSettings_0 : uD 1 cX5_readSettings 0 (.iconst 0) 1 := ⟨by decide +kernel, rfl⟩
theorem dX5_readSettings_1 : uD 1 cX5_readSettings 1 (.istore_n 2) 2 := ⟨by decide +kernel, rfl⟩
theorem dX5_readSettings_2 : uD 1 cX5_readSettings 2 (.iconst 0) 3 := ⟨by decide +kernel, rfl⟩
theorem dX5_readSettings_3 : uD 1 cX5_readSettings 3 (.istore_n 3) 4 := ⟨by decide +kernel, rfl⟩
theorem dX5_readSettings_4 : uD 1 cX5_readSettings 4 (.iload_n 3) 5 := ⟨by decide +kernel, rfl⟩
theorem dX5_readSettings_5 : uD 1 cX5_readSettings 5 (.iconst 3) 6 := ⟨by decide +kernel, rfl⟩
theorem dX5_readSettings_6 : uJ cX5_readSettings 6 (fun o => .if_icmp .gt o) 60 9 := ⟨54, by decide +kernel, by decide, rfl⟩
theorem dX5_readSettings_9 : uD 1 cX5_readSettings 9 (.aload_n 0) 10 := ⟨by decide +kernel, rfl⟩
theorem dX5_readSettings_10 : uD 3 cX5_readSettings 10 (.invokevirtual 106) 13 := ⟨by decide +kernel, rfl⟩
theorem dX5_readSettings_13 : uD 2 cX5_readSettings 13 (.istore 4) 15 := ⟨by decide +kernel, rfl⟩
theorem dX5_readSettings_15 : uD 2 cX5_readSettings 15 (.iload 4) 17 := ⟨by decide +kernel, rfl⟩
theorem dX5_readSettings_17 : uJ cX5_readSettings 17 (fun o => .ifCond .ne o) 21 20 := ⟨4, by decide +kernel, by decide, rfl⟩
theorem dX5_readSettings_20 : uD 1 cX5_readSettings 20 (.return_) 21 := ⟨by decide +kernel, rfl⟩
theorem dX5_readSettings_21 : uD 1 cX5_readSettings 21 (.iload_n 2) 22 := ⟨by decide +kernel, rfl⟩
theorem dX5_readSettings_22 : uD 2 cX5_readSettings 22 (.iload 4) 24 := ⟨by decide +kernel, rfl⟩
theorem dX5_readSettings_24 : uD 1 cX5_readSettings 24 (.iand) 25 := ⟨by decide +kernel, rfl⟩
theorem dX5_readSettings_25 : uJ cX5_readSettings 25 (fun o => .ifCond .eq o) 34 28 := ⟨9, by decide +kernel, by decide, rfl⟩
theorem dX5_readSettings_28 : uD 1 cX5_readSettings 28 (.aload_n 0) 29 := ⟨by decide +kernel, rfl⟩
theorem dX5_readSettings_29 : uD 1 cX5_readSettings 29 (.iconst 3) 30 := ⟨by decide +kernel, rfl⟩
theorem dX5_readSettings_30 : uD 3 cX5_readSettings 30 (.invokevirtual 73) 33 := ⟨by decide +kernel, rfl⟩
theorem dX5_readSettings_33 : uD 1 cX5_readSettings 33 (.return_) 34 := ⟨by decide +kernel, rfl⟩
theorem dX5_readSettings_34 : uD 1 cX5_readSettings 34 (.iload_n 2) 35 := ⟨by decide +kernel, rfl⟩
theorem dX5_readSettings_35 : uD 2 cX5_readSettings 35 (.iload 4) 37 := ⟨by decide +kernel, rfl⟩
theorem dX5_readSettings_37 : uD 1 cX5_readSettings 37 (.ior) 38 := ⟨by decide +kernel, rfl⟩
theorem dX5_readSettings_38 : uD 1 cX5_readSettings 38 (.istore_n 2) 39 := ⟨by decide +kernel, rfl⟩
theorem dX5_readSettings_39 : uD 1 cX5_readSettings 39 (.aload_n 0) 40 := ⟨by decide +kernel, rfl⟩
theorem dX5_readSettings_40 : uD 3 cX5_readSettings 40 (.invokevirtual 54) 43 := ⟨by decide +kernel, rfl⟩
theorem dX5_readSettings_43 : uD 1 cX5_readSettings 43 (.aload_n 0) 44 := ⟨by decide +kernel, rfl⟩
theorem dX5_readSettings_44 : uD 1 cX5_readSettings 44 (.aload_n 1) 45 := ⟨by decide +kernel, rfl⟩
theorem dX5_readSettings_45 : uD 2 cX5_readSettings 45 (.iload 4) 47 := ⟨by decide +kernel, rfl⟩
theorem dX5_readSettings_47 : uD 3 cX5_readSettings 47 (.invokevirtual 110) 50 := ⟨by decide +kernel, rfl⟩
theorem dX5_readSettings_50 : uD 1 cX5_readSettings 50 (.aload_n 0) 51 := ⟨by decide +kernel, rfl⟩
theorem dX5_readSettings_51 : uD 3 cX5_readSettings 51 (.invokevirtual 103) 54 := ⟨by decide +kernel, rfl⟩
theorem dX5_readSettings_54 : uD 3 cX5_readSettings 54 (.iinc 3 1) 57 := ⟨by decide +kernel, rfl⟩
theorem dX5_readSettings_57 : uJ cX5_readSettings 57 (fun o => .goto o) 4 60 := ⟨(-53), by decide +kernel, by decide, rfl⟩
theorem dX5_readSettings_60 : uD 1 cX5_readSettings 60 (.return_) 61 := ⟨by decide +kernel, rfl⟩
theorem dX5_settingAtToken_0 : uD 1 cX5_settingAtToken 0 (.aload_n 0) 1 := ⟨by decide +kernel, rfl⟩
theorem dX5_settingAtToken_1 : uD 2 cX5_settingAtToken 1 (.ldc 114) 3 := ⟨by decide +kernel, rfl⟩
theorem dX5_settingAtToken_3 : uD 3 cX5_settingAtToken 3 (.invokevirtual 116) 6 := ⟨by decide +kernel, rfl⟩
theorem dX5_settingAtToken_6 : uJ cX5_settingAtToken 6 (fun o => .ifCond .eq o) 11 9 := ⟨5, by decide +kernel, by decide, rfl⟩
theorem dX5_settingAtToken_9 : uD 1 cX5_settingAtToken 9 (.iconst 1) 10 := ⟨by decide +kernel, rfl⟩
theorem dX5_settingAtToken_10 : uD 1 cX5_settingAtToken 10 (.ireturn) 11 := ⟨by decide +kernel, rfl⟩
theorem dX5_settingAtToken_11 : uD 1 cX5_settingAtToken 11 (.aload_n 0) 12 := ⟨by decide +kernel, rfl⟩
theorem dX5_settingAtToken_12 : uD 2 cX5_settingAtToken 12 (.ldc 120) 14 := ⟨by decide +kernel, rfl⟩
theorem dX5_settingAtToken_14 : uD 3 cX5_settingAtToken 14 (.invokevirtual 116) 17 := ⟨by decide +kernel, rfl⟩
theorem dX5_settingAtToken_17 : uJ cX5_settingAtToken 17 (fun o => .ifCond .eq o) 22 20 := ⟨5, by decide +kernel, by decide, rfl⟩
theorem dX5_settingAtToken_20 : uD 1 cX5_settingAtToken 20 (.iconst 2) 21 := ⟨by decide +kernel, rfl⟩
theorem dX5_settingAtToken_21 : uD 1 cX5_settingAtToken 21 (.ireturn) 22 := ⟨by decide +kernel, rfl⟩
theorem dX5_settingAtToken_22 : uD 1 cX5_settingAtToken 22 (.aload_n 0) 23 := ⟨by decide +kernel, rfl⟩
theorem dX5_settingAtToken_23 : uD 2 cX5_settingAtToken 23 (.ldc 122) 25 := ⟨by decide +kernel, rfl⟩
theorem dX5_settingAtToken_25 : uD 3 cX5_settingAtToken 25 (.invokevirtual 116) 28 := ⟨by decide +kernel, rfl⟩
theorem dX5_settingAtToken_28 : uJ cX5_settingAtToken 28 (fun o => .ifCond .eq o) 35 31 := ⟨7, by decide +kernel, by decide, rfl⟩
theorem dX5_settingAtToken_31 : uD 1 cX5_settingAtToken 31 (.iconst 4) 32 := ⟨by decide +kernel, rfl⟩
theorem dX5_settingAtToken_32 : uJ cX5_settingAtToken 32 (fun o => .goto o) 36 35 := ⟨4, by decide +kernel, by decide, rfl⟩
theorem dX5_settingAtToken_35 : uD 1 cX5_settingAtToken 35 (.iconst 0) 36 := ⟨by decide +kernel, rfl⟩
theorem dX5_settingAtToken_36 : uD 1 cX5_settingAtToken 36 (.ireturn) 37 := ⟨by decide +kernel, rfl⟩
theorem dX5_readSetting_0 : uD 1 cX5_readSetting 0 (.iload_n 2) 1 := ⟨by decide +kernel, rfl⟩
theorem dX5_readSetting_1 : uD 1 cX5_readSetting 1 (.iconst 1) 2 := ⟨by decide +kernel, rfl⟩
theorem dX5_readSetting_2 : uJ cX5_readSetting 2 (fun o => .if_icmp .ne o) 20 5 := ⟨18, by decide +kernel, by decide, rfl⟩
theorem dX5_readSetting_5 : uD 1 cX5_readSetting 5 (.aload_n 1) 6 := ⟨by decide +kernel, rfl⟩
theorem dX5_readSetting_6 : uD 1 cX5_readSetting 6 (.aload_n 0) 7 := ⟨by decide +kernel, rfl⟩
theorem dX5_readSetting_7 : uD 1 cX5_readSetting 7 (.iconst 0) 8 := ⟨by decide +kernel, rfl⟩
theorem dX5_readSetting_8 : uD 3 cX5_readSetting 8 (.sipush 200) 11 := ⟨by decide +kernel, rfl⟩
theorem dX5_readSetting_11 : uD 3 cX5_readSetting 11 (.invokevirtual 82) 14 := ⟨by decide +kernel, rfl⟩
theorem dX5_readSetting_14 : uD 3 cX5_readSetting 14 (.putfield 124) 17 := ⟨by decide +kernel, rfl⟩
theorem dX5_readSetting_17 : uJ cX5_readSetting 17 (fun o => .goto o) 44 20 := ⟨27, by decide +kernel, by decide, rfl⟩
theorem dX5_readSetting_20 : uD 1 cX5_readSetting 20 (.iload_n 2) 21 := ⟨by decide +kernel, rfl⟩
theorem dX5_readSetting_21 : uD 1 cX5_readSetting 21 (.iconst 2) 22 := ⟨by decide +kernel, rfl⟩
theorem dX5_readSetting_22 : uJ cX5_readSetting 22 (fun o => .if_icmp .ne o) 39 25 := ⟨17, by decide +kernel, by decide, rfl⟩
theorem dX5_readSetting_25 : uD 1 cX5_readSetting 25 (.aload_n 1) 26 := ⟨by decide +kernel, rfl⟩
theorem dX5_readSetting_26 : uD 1 cX5_readSetting 26 (.aload_n 0) 27 := ⟨by decide +kernel, rfl⟩
theorem dX5_readSetting_27 : uD 1 cX5_readSetting 27 (.iconst 1) 28 := ⟨by decide +kernel, rfl⟩
theorem dX5_readSetting_28 : uD 2 cX5_readSetting 28 (.bipush 24) 30 := ⟨by decide +kernel, rfl⟩
theorem dX5_readSetting_30 : uD 3 cX5_readSetting 30 (.invokevirtual 82) 33 := ⟨by decide +kernel, rfl⟩
theorem dX5_readSetting_33 : uD 3 cX5_readSetting 33 (.putfield 126) 36 := ⟨by decide +kernel, rfl⟩
theorem dX5_readSetting_36 : uJ cX5_readSetting 36 (fun o => .goto o) 44 39 := ⟨8, by decide +kernel, by decide, rfl⟩
theorem dX5_readSetting_39 : uD 1 cX5_readSetting 39 (.aload_n 0) 40 := ⟨by decide +kernel, rfl⟩
theorem dX5_readSetting_40 : uD 1 cX5_readSetting 40 (.aload_n 1) 41 := ⟨by decide +kernel, rfl⟩
theorem dX5_readSetting_41 : uD 3 cX5_readSetting 41 (.invokevirtual 128) 44 := ⟨by decide +kernel, rfl⟩
theorem dX5_readSetting_44 : uD 1 cX5_readSetting 44 (.return_) 45 := ⟨by decide +kernel, rfl⟩
theorem dX5_readMode_0 : uD 1 cX5_readMode 0 (.aload_n 0) 1 := ⟨by decide +kernel, rfl⟩
theorem dX5_readMode_1 : uD 2 cX5_readMode 1 (.ldc 131) 3 := ⟨by decide +kernel, rfl⟩
theorem dX5_readMode_3 : uD 3 cX5_readMode 3 (.invokevirtual 116) 6 := ⟨by decide +kernel, rfl⟩
theorem dX5_readMode_6 : uJ cX5_readMode 6 (fun o => .ifCond .eq o) 32 9 := ⟨26, by decide +kernel, by decide, rfl⟩
theorem dX5_readMode_9 : uD 1 cX5_readMode 9 (.aload_n 0) 10 := ⟨by decide +kernel, rfl⟩
theorem dX5_readMode_10 : uD 3 cX5_readMode 10 (.invokevirtual 54) 13 := ⟨by decide +kernel, rfl⟩
theorem dX5_readMode_13 : uD 1 cX5_readMode 13 (.aload_n 1) 14 := ⟨by decide +kernel, rfl⟩
theorem dX5_readMode_14 : uD 1 cX5_readMode 14 (.iconst 1) 15 := ⟨by decide +kernel, rfl⟩
theorem dX5_readMode_15 : uD 3 cX5_readMode 15 (.putfield 133) 18 := ⟨by decide +kernel, rfl⟩
theorem dX5_readMode_18 : uD 1 cX5_readMode 18 (.aload_n 1) 19 := ⟨by decide +kernel, rfl⟩
theorem dX5_readMode_19 : uD 1 cX5_readMode 19 (.aload_n 0) 20 := ⟨by decide +kernel, rfl⟩
theorem dX5_readMode_20 : uD 1 cX5_readMode 20 (.iconst 1) 21 := ⟨by decide +kernel, rfl⟩
theorem dX5_readMode_21 : uD 2 cX5_readMode 21 (.bipush 99) 23 := ⟨by decide +kernel, rfl⟩
theorem dX5_readMode_23 : uD 3 cX5_readMode 23 (.invokevirtual 82) 26 := ⟨by decide +kernel, rfl⟩
theorem dX5_readMode_26 : uD 3 cX5_readMode 26 (.putfield 135) 29 := ⟨by decide +kernel, rfl⟩
theorem dX5_readMode_29 : uJ cX5_readMode 29 (fun o => .goto o) 64 32 := ⟨35, by decide +kernel, by decide, rfl⟩
theorem dX5_readMode_32 : uD 1 cX5_readMode 32 (.aload_n 0) 33 := ⟨by decide +kernel, rfl⟩
theorem dX5_readMode_33 : uD 2 cX5_readMode 33 (.ldc 138) 35 := ⟨by decide +kernel, rfl⟩
theorem dX5_readMode_35 : uD 3 cX5_readMode 35 (.invokevirtual 116) 38 := ⟨by decide +kernel, rfl⟩
theorem dX5_readMode_38 : uJ cX5_readMode 38 (fun o => .ifCond .eq o) 53 41 := ⟨15, by decide +kernel, by decide, rfl⟩
theorem dX5_readMode_41 : uD 1 cX5_readMode 41 (.aload_n 0) 42 := ⟨by decide +kernel, rfl⟩
theorem dX5_readMode_42 : uD 3 cX5_readMode 42 (.invokevirtual 54) 45 := ⟨by decide +kernel, rfl⟩
theorem dX5_readMode_45 : uD 1 cX5_readMode 45 (.aload_n 1) 46 := ⟨by decide +kernel, rfl⟩
theorem dX5_readMode_46 : uD 1 cX5_readMode 46 (.iconst 2) 47 := ⟨by decide +kernel, rfl⟩
theorem dX5_readMode_47 : uD 3 cX5_readMode 47 (.putfield 133) 50 := ⟨by decide +kernel, rfl⟩
theorem dX5_readMode_50 : uJ cX5_readMode 50 (fun o => .goto o) 64 53 := ⟨14, by decide +kernel, by decide, rfl⟩
theorem dX5_readMode_53 : uD 1 cX5_readMode 53 (.aload_n 0) 54 := ⟨by decide +kernel, rfl⟩
theorem dX5_readMode_54 : uD 2 cX5_readMode 54 (.ldc 140) 56 := ⟨by decide +kernel, rfl⟩
theorem dX5_readMode_56 : uD 3 cX5_readMode 56 (.invokevirtual 78) 59 := ⟨by decide +kernel, rfl⟩
theorem dX5_readMode_59 : uD 1 cX5_readMode 59 (.aload_n 1) 60 := ⟨by decide +kernel, rfl⟩
theorem dX5_readMode_60 : uD 1 cX5_readMode 60 (.iconst 0) 61 := ⟨by decide +kernel, rfl⟩
theorem dX5_readMode_61 : uD 3 cX5_readMode 61 (.putfield 133) 64 := ⟨by decide +kernel, rfl⟩
theorem dX5_readMode_64 : uD 1 cX5_readMode 64 (.return_) 65 := ⟨by decide +kernel, rfl⟩
theorem dX5_readDevices_0 : uD 1 cX5_readDevices 0 (.iconst 0) 1 := ⟨by decide +kernel, rfl⟩
theorem dX5_readDevices_1 : uD 1 cX5_readDevices 1 (.istore_n 2) 2 := ⟨by decide +kernel, rfl⟩
theorem dX5_readDevices_2 : uD 1 cX5_readDevices 2 (.iload_n 2) 3 := ⟨by decide +kernel, rfl⟩
theorem dX5_readDevices_3 : uD 1 cX5_readDevices 3 (.iconst 5) 4 := ⟨by decide +kernel, rfl⟩
theorem dX5_readDevices_4 : uJ cX5_readDevices 4 (fun o => .if_icmp .gt o) 88 7 := ⟨84, by decide +kernel, by decide, rfl⟩
theorem dX5_readDevices_7 : uD 1 cX5_readDevices 7 (.aload_n 0) 8 := ⟨by decide +kernel, rfl⟩
theorem dX5_readDevices_8 : uD 2 cX5_readDevices 8 (.ldc 142) 10 := ⟨by decide +kernel, rfl⟩
theorem dX5_readDevices_10 : uD 3 cX5_readDevices 10 (.invokevirtual 116) 13 := ⟨by decide +kernel, rfl⟩
theorem dX5_readDevices_13 : uJ cX5_readDevices 13 (fun o => .ifCond .eq o) 88 16 := ⟨75, by decide +kernel, by decide, rfl⟩
theorem dX5_readDevices_16 : uD 1 cX5_readDevices 16 (.iload_n 2) 17 := ⟨by decide +kernel, rfl⟩
theorem dX5_readDevices_17 : uD 1 cX5_readDevices 17 (.iconst 5) 18 := ⟨by decide +kernel, rfl⟩
theorem dX5_readDevices_18 : uJ cX5_readDevices 18 (fun o => .if_icmp .ne o) 27 21 := ⟨9, by decide +kernel, by decide, rfl⟩
theorem dX5_readDevices_21 : uD 1 cX5_readDevices 21 (.aload_n 0) 22 := ⟨by decide +kernel, rfl⟩
theorem dX5_readDevices_22 : uD 1 cX5_readDevices 22 (.iconst 4) 23 := ⟨by decide +kernel, rfl⟩
theorem dX5_readDevices_23 : uD 3 cX5_readDevices 23 (.invokevirtual 73) 26 := ⟨by decide +kernel, rfl⟩
theorem dX5_readDevices_26 : uD 1 cX5_readDevices 26 (.return_) 27 := ⟨by decide +kernel, rfl⟩
theorem dX5_readDevices_27 : uD 1 cX5_readDevices 27 (.aload_n 0) 28 := ⟨by decide +kernel, rfl⟩
theorem dX5_readDevices_28 : uD 3 cX5_readDevices 28 (.invokevirtual 54) 31 := ⟨by decide +kernel, rfl⟩
theorem dX5_readDevices_31 : uD 1 cX5_readDevices 31 (.aload_n 1) 32 := ⟨by decide +kernel, rfl⟩
theorem dX5_readDevices_32 : uD 3 cX5_readDevices 32 (.getfield 144) 35 := ⟨by decide +kernel, rfl⟩
theorem dX5_readDevices_35 : uD 1 cX5_readDevices 35 (.iload_n 2) 36 := ⟨by decide +kernel, rfl⟩
theorem dX5_readDevices_36 : uD 1 cX5_readDevices 36 (.aload_n 0) 37 := ⟨by decide +kernel, rfl⟩
theorem dX5_readDevices_37 : uD 1 cX5_readDevices 37 (.iconst 0) 38 := ⟨by decide +kernel, rfl⟩
theorem dX5_readDevices_38 : uD 3 cX5_readDevices 38 (.sipush 200) 41 := ⟨by decide +kernel, rfl⟩
theorem dX5_readDevices_41 : uD 3 cX5_readDevices 41 (.invokevirtual 82) 44 := ⟨by decide +kernel, rfl⟩
theorem dX5_readDevices_44 : uD 1 cX5_readDevices 44 (.iastore) 45 := ⟨by decide +kernel, rfl⟩
theorem dX5_readDevices_45 : uD 1 cX5_readDevices 45 (.aload_n 1) 46 := ⟨by decide +kernel, rfl⟩
theorem dX5_readDevices_46 : uD 3 cX5_readDevices 46 (.getfield 148) 49 := ⟨by decide +kernel, rfl⟩
theorem dX5_readDevices_49 : uD 1 cX5_readDevices 49 (.iload_n 2) 50 := ⟨by decide +kernel, rfl⟩
theorem dX5_readDevices_50 : uD 1 cX5_readDevices 50 (.aload_n 0) 51 := ⟨by decide +kernel, rfl⟩
theorem dX5_readDevices_51 : uD 1 cX5_readDevices 51 (.iconst 0) 52 := ⟨by decide +kernel, rfl⟩
theorem dX5_readDevices_52 : uD 2 cX5_readDevices 52 (.bipush 50) 54 := ⟨by decide +kernel, rfl⟩
theorem dX5_readDevices_54 : uD 3 cX5_readDevices 54 (.invokevirtual 82) 57 := ⟨by decide +kernel, rfl⟩
theorem dX5_readDevices_57 : uD 1 cX5_readDevices 57 (.iastore) 58 := ⟨by decide +kernel, rfl⟩
theorem dX5_readDevices_58 : uD 1 cX5_readDevices 58 (.aload_n 1) 59 := ⟨by decide +kernel, rfl⟩
theorem dX5_readDevices_59 : uD 3 cX5_readDevices 59 (.getfield 151) 62 := ⟨by decide +kernel, rfl⟩
theorem dX5_readDevices_62 : uD 1 cX5_readDevices 62 (.iload_n 2) 63 := ⟨by decide +kernel, rfl⟩
theorem dX5_readDevices_63 : uD 1 cX5_readDevices 63 (.aload_n 0) 64 := ⟨by decide +kernel, rfl⟩
theorem dX5_readDevices_64 : uD 1 cX5_readDevices 64 (.iconst 1) 65 := ⟨by decide +kernel, rfl⟩
theorem dX5_readDevices_65 : uD 2 cX5_readDevices 65 (.bipush 50) 67 := ⟨by decide +kernel, rfl⟩
theorem dX5_readDevices_67 : uD 3 cX5_readDevices 67 (.invokevirtual 82) 70 := ⟨by decide +kernel, rfl⟩
theorem dX5_readDevices_70 : uD 1 cX5_readDevices 70 (.iastore) 71 := ⟨by decide +kernel, rfl⟩
theorem dX5_readDevices_71 : uD 1 cX5_readDevices 71 (.aload_n 0) 72 := ⟨by decide +kernel, rfl⟩
theorem dX5_readDevices_72 : uD 3 cX5_readDevices 72 (.invokevirtual 103) 75 := ⟨by decide +kernel, rfl⟩
theorem dX5_readDevices_75 : uD 1 cX5_readDevices 75 (.aload_n 1) 76 := ⟨by decide +kernel, rfl⟩
theorem dX5_readDevices_76 : uD 1 cX5_readDevices 76 (.iload_n 2) 77 := ⟨by decide +kernel, rfl⟩
theorem dX5_readDevices_77 : uD 1 cX5_readDevices 77 (.iconst 1) 78 := ⟨by decide +kernel, rfl⟩
theorem dX5_readDevices_78 : uD 1 cX5_readDevices 78 (.iadd) 79 := ⟨by decide +kernel, rfl⟩
theorem dX5_readDevices_79 : uD 3 cX5_readDevices 79 (.putfield 49) 82 := ⟨by decide +kernel, rfl⟩
theorem dX5_readDevices_82 : uD 3 cX5_readDevices 82 (.iinc 2 1) 85 := ⟨by decide +kernel, rfl⟩
theorem dX5_readDevices_85 : uJ cX5_readDevices 85 (fun o => .goto o) 2 88 := ⟨(-83), by decide +kernel, by decide, rfl⟩
theorem dX5_readDevices_88 : uD 1 cX5_readDevices 88 (.return_) 89 := ⟨by decide +kernel, rfl⟩
theorem dX5_takeWord_0 : uD 1 cX5_takeWord 0 (.aload_n 0) 1 := ⟨by decide +kernel, rfl⟩
theorem dX5_takeWord_1 : uD 1 cX5_takeWord 1 (.aload_n 1) 2 := ⟨by decide +kernel, rfl⟩
theorem dX5_takeWord_2 : uD 3 cX5_takeWord 2 (.invokevirtual 116) 5 := ⟨by decide +kernel, rfl⟩
theorem dX5_takeWord_5 : uJ cX5_takeWord 5 (fun o => .ifCond .eq o) 15 8 := ⟨10, by decide +kernel, by decide, rfl⟩
theorem dX5_takeWord_8 : uD 1 cX5_takeWord 8 (.aload_n 0) 9 := ⟨by decide +kernel, rfl⟩
theorem dX5_takeWord_9 : uD 3 cX5_takeWord 9 (.invokevirtual 54) 12 := ⟨by decide +kernel, rfl⟩
theorem dX5_takeWord_12 : uJ cX5_takeWord 12 (fun o => .goto o) 20 15 := ⟨8, by decide +kernel, by decide, rfl⟩
theorem dX5_takeWord_15 : uD 1 cX5_takeWord 15 (.aload_n 0) 16 := ⟨by decide +kernel, rfl⟩
theorem dX5_takeWord_16 : uD 1 cX5_takeWord 16 (.iconst 1) 17 := ⟨by decide +kernel, rfl⟩
theorem dX5_takeWord_17 : uD 3 cX5_takeWord 17 (.invokevirtual 73) 20 := ⟨by decide +kernel, rfl⟩
theorem dX5_takeWord_20 : uD 1 cX5_takeWord 20 (.return_) 21 := ⟨by decide +kernel, rfl⟩
theorem dX5_takeSemicolon_0 : uD 1 cX5_takeSemicolon 0 (.aload_n 0) 1 := ⟨by decide +kernel, rfl⟩
theorem dX5_takeSemicolon_1 : uD 3 cX5_takeSemicolon 1 (.getfield 25) 4 := ⟨by decide +kernel, rfl⟩
theorem dX5_takeSemicolon_4 : uD 1 cX5_takeSemicolon 4 (.iconst 3) 5 := ⟨by decide +kernel, rfl⟩
theorem dX5_takeSemicolon_5 : uJ cX5_takeSemicolon 5 (fun o => .if_icmp .ne o) 15 8 := ⟨10, by decide +kernel, by decide, rfl⟩
theorem dX5_takeSemicolon_8 : uD 1 cX5_takeSemicolon 8 (.aload_n 0) 9 := ⟨by decide +kernel, rfl⟩
theorem dX5_takeSemicolon_9 : uD 3 cX5_takeSemicolon 9 (.invokevirtual 54) 12 := ⟨by decide +kernel, rfl⟩
theorem dX5_takeSemicolon_12 : uJ cX5_takeSemicolon 12 (fun o => .goto o) 20 15 := ⟨8, by decide +kernel, by decide, rfl⟩
theorem dX5_takeSemicolon_15 : uD 1 cX5_takeSemicolon 15 (.aload_n 0) 16 := ⟨by decide +kernel, rfl⟩
theorem dX5_takeSemicolon_16 : uD 1 cX5_takeSemicolon 16 (.iconst 1) 17 := ⟨by decide +kernel, rfl⟩
theorem dX5_takeSemicolon_17 : uD 3 cX5_takeSemicolon 17 (.invokevirtual 73) 20 := ⟨by decide +kernel, rfl⟩
theorem dX5_takeSemicolon_20 : uD 1 cX5_takeSemicolon 20 (.return_) 21 := ⟨by decide +kernel, rfl⟩
theorem dX5_takeNumber_0 : uD 1 cX5_takeNumber 0 (.aload_n 0) 1 := ⟨by decide +kernel, rfl⟩
theorem dX5_takeNumber_1 : uD 3 cX5_takeNumber 1 (.getfield 25) 4 := ⟨by decide +kernel, rfl⟩
theorem dX5_takeNumber_4 : uD 1 cX5_takeNumber 4 (.iconst 2) 5 := ⟨by decide +kernel, rfl⟩
theorem dX5_takeNumber_5 : uJ cX5_takeNumber 5 (fun o => .if_icmp .eq o) 15 8 := ⟨10, by decide +kernel, by decide, rfl⟩
theorem dX5_takeNumber_8 : uD 1 cX5_takeNumber 8 (.aload_n 0) 9 := ⟨by decide +kernel, rfl⟩
theorem dX5_takeNumber_9 : uD 1 cX5_takeNumber 9 (.iconst 1) 10 := ⟨by decide +kernel, rfl⟩
theorem dX5_takeNumber_10 : uD 3 cX5_takeNumber 10 (.invokevirtual 73) 13 := ⟨by decide +kernel, rfl⟩
theorem dX5_takeNumber_13 : uD 1 cX5_takeNumber 13 (.iload_n 1) 14 := ⟨by decide +kernel, rfl⟩
theorem dX5_takeNumber_14 : uD 1 cX5_takeNumber 14 (.ireturn) 15 := ⟨by decide +kernel, rfl⟩
theorem dX5_takeNumber_15 : uD 1 cX5_takeNumber 15 (.iconst 0) 16 := ⟨by decide +kernel, rfl⟩
theorem dX5_takeNumber_16 : uD 1 cX5_takeNumber 16 (.istore_n 3) 17 := ⟨by decide +kernel, rfl⟩
theorem dX5_takeNumber_17 : uD 1 cX5_takeNumber 17 (.aload_n 0) 18 := ⟨by decide +kernel, rfl⟩
theorem dX5_takeNumber_18 : uD 3 cX5_takeNumber 18 (.getfield 28) 21 := ⟨by decide +kernel, rfl⟩
theorem dX5_takeNumber_21 : uD 2 cX5_takeNumber 21 (.istore 4) 23 := ⟨by decide +kernel, rfl⟩
theorem dX5_takeNumber_23 : uD 2 cX5_takeNumber 23 (.iload 4) 25 := ⟨by decide +kernel, rfl⟩
theorem dX5_takeNumber_25 : uD 1 cX5_takeNumber 25 (.aload_n 0) 26 := ⟨by decide +kernel, rfl⟩
theorem dX5_takeNumber_26 : uD 3 cX5_takeNumber 26 (.getfield 31) 29 := ⟨by decide +kernel, rfl⟩
theorem dX5_takeNumber_29 : uJ cX5_takeNumber 29 (fun o => .if_icmp .ge o) 63 32 := ⟨34, by decide +kernel, by decide, rfl⟩
theorem dX5_takeNumber_32 : uD 2 cX5_takeNumber 32 (.iload 4) 34 := ⟨by decide +kernel, rfl⟩
theorem dX5_takeNumber_34 : uD 1 cX5_takeNumber 34 (.aload_n 0) 35 := ⟨by decide +kernel, rfl⟩
theorem dX5_takeNumber_35 : uD 3 cX5_takeNumber 35 (.getfield 15) 38 := ⟨by decide +kernel, rfl⟩
theorem dX5_takeNumber_38 : uJ cX5_takeNumber 38 (fun o => .if_icmp .ge o) 63 41 := ⟨25, by decide +kernel, by decide, rfl⟩
theorem dX5_takeNumber_41 : uD 1 cX5_takeNumber 41 (.iload_n 3) 42 := ⟨by decide +kernel, rfl⟩
theorem dX5_takeNumber_42 : uD 2 cX5_takeNumber 42 (.bipush 10) 44 := ⟨by decide +kernel, rfl⟩
theorem dX5_takeNumber_44 : uD 1 cX5_takeNumber 44 (.imul) 45 := ⟨by decide +kernel, rfl⟩
theorem dX5_takeNumber_45 : uD 1 cX5_takeNumber 45 (.aload_n 0) 46 := ⟨by decide +kernel, rfl⟩
theorem dX5_takeNumber_46 : uD 3 cX5_takeNumber 46 (.getfield 9) 49 := ⟨by decide +kernel, rfl⟩
theorem dX5_takeNumber_49 : uD 2 cX5_takeNumber 49 (.iload 4) 51 := ⟨by decide +kernel, rfl⟩
theorem dX5_takeNumber_51 : uD 1 cX5_takeNumber 51 (.baload) 52 := ⟨by decide +kernel, rfl⟩
theorem dX5_takeNumber_52 : uD 1 cX5_takeNumber 52 (.iadd) 53 := ⟨by decide +kernel, rfl⟩
theorem dX5_takeNumber_53 : uD 2 cX5_takeNumber 53 (.bipush 48) 55 := ⟨by decide +kernel, rfl⟩
theorem dX5_takeNumber_55 : uD 1 cX5_takeNumber 55 (.isub) 56 := ⟨by decide +kernel, rfl⟩
theorem dX5_takeNumber_56 : uD 1 cX5_takeNumber 56 (.istore_n 3) 57 := ⟨by decide +kernel, rfl⟩
theorem dX5_takeNumber_57 : uD 3 cX5_takeNumber 57 (.iinc 4 1) 60 := ⟨by decide +kernel, rfl⟩
theorem dX5_takeNumber_60 : uJ cX5_takeNumber 60 (fun o => .goto o) 23 63 := ⟨(-37), by decide +kernel, by decide, rfl⟩
theorem dX5_takeNumber_63 : uD 1 cX5_takeNumber 63 (.iload_n 3) 64 := ⟨by decide +kernel, rfl⟩
theorem dX5_takeNumber_64 : uD 1 cX5_takeNumber 64 (.iload_n 1) 65 := ⟨by decide +kernel, rfl⟩
theorem dX5_takeNumber_65 : uJ cX5_takeNumber 65 (fun o => .if_icmp .lt o) 73 68 := ⟨8, by decide +kernel, by decide, rfl⟩
theorem dX5_takeNumber_68 : uD 1 cX5_takeNumber 68 (.iload_n 3) 69 := ⟨by decide +kernel, rfl⟩
theorem dX5_takeNumber_69 : uD 1 cX5_takeNumber 69 (.iload_n 2) 70 := ⟨by decide +kernel, rfl⟩
theorem dX5_takeNumber_70 : uJ cX5_takeNumber 70 (fun o => .if_icmp .le o) 80 73 := ⟨10, by decide +kernel, by decide, rfl⟩
theorem dX5_takeNumber_73 : uD 1 cX5_takeNumber 73 (.aload_n 0) 74 := ⟨by decide +kernel, rfl⟩
theorem dX5_takeNumber_74 : uD 1 cX5_takeNumber 74 (.iconst 2) 75 := ⟨by decide +kernel, rfl⟩
theorem dX5_takeNumber_75 : uD 3 cX5_takeNumber 75 (.invokevirtual 73) 78 := ⟨by decide +kernel, rfl⟩
theorem dX5_takeNumber_78 : uD 1 cX5_takeNumber 78 (.iload_n 1) 79 := ⟨by decide +kernel, rfl⟩
theorem dX5_takeNumber_79 : uD 1 cX5_takeNumber 79 (.ireturn) 80 := ⟨by decide +kernel, rfl⟩
theorem dX5_takeNumber_80 : uD 1 cX5_takeNumber 80 (.aload_n 0) 81 := ⟨by decide +kernel, rfl⟩
theorem dX5_takeNumber_81 : uD 3 cX5_takeNumber 81 (.invokevirtual 54) 84 := ⟨by decide +kernel, rfl⟩
theorem dX5_takeNumber_84 : uD 1 cX5_takeNumber 84 (.iload_n 3) 85 := ⟨by decide +kernel, rfl⟩
theorem dX5_takeNumber_85 : uD 1 cX5_takeNumber 85 (.ireturn) 86 := ⟨by decide +kernel, rfl⟩
theorem dX5_refuse_0 : uD 1 cX5_refuse 0 (.aload_n 0) 1 := ⟨by decide +kernel, rfl⟩
theorem dX5_refuse_1 : uD 3 cX5_refuse 1 (.getfield 19) 4 := ⟨by decide +kernel, rfl⟩
theorem dX5_refuse_4 : uJ cX5_refuse 4 (fun o => .ifCond .ne o) 20 7 := ⟨16, by decide +kernel, by decide, rfl⟩
theorem dX5_refuse_7 : uD 1 cX5_refuse 7 (.aload_n 0) 8 := ⟨by decide +kernel, rfl⟩
theorem dX5_refuse_8 : uD 1 cX5_refuse 8 (.iload_n 1) 9 := ⟨by decide +kernel, rfl⟩
theorem dX5_refuse_9 : uD 3 cX5_refuse 9 (.putfield 19) 12 := ⟨by decide +kernel, rfl⟩
theorem dX5_refuse_12 : uD 1 cX5_refuse 12 (.aload_n 0) 13 := ⟨by decide +kernel, rfl⟩
theorem dX5_refuse_13 : uD 1 cX5_refuse 13 (.aload_n 0) 14 := ⟨by decide +kernel, rfl⟩
theorem dX5_refuse_14 : uD 3 cX5_refuse 14 (.getfield 28) 17 := ⟨by decide +kernel, rfl⟩
theorem dX5_refuse_17 : uD 3 cX5_refuse 17 (.putfield 22) 20 := ⟨by decide +kernel, rfl⟩
theorem dX5_refuse_20 : uD 1 cX5_refuse 20 (.aload_n 0) 21 := ⟨by decide +kernel, rfl⟩
theorem dX5_refuse_21 : uD 1 cX5_refuse 21 (.iconst 4) 22 := ⟨by decide +kernel, rfl⟩
theorem dX5_refuse_22 : uD 3 cX5_refuse 22 (.putfield 25) 25 := ⟨by decide +kernel, rfl⟩
theorem dX5_refuse_25 : uD 1 cX5_refuse 25 (.return_) 26 := ⟨by decide +kernel, rfl⟩
theorem dX5_isWord_0 : uD 1 cX5_isWord 0 (.aload_n 0) 1 := ⟨by decide +kernel, rfl⟩
theorem dX5_isWord_1 : uD 3 cX5_isWord 1 (.getfield 25) 4 := ⟨by decide +kernel, rfl⟩
theorem dX5_isWord_4 : uD 1 cX5_isWord 4 (.iconst 1) 5 := ⟨by decide +kernel, rfl⟩
theorem dX5_isWord_5 : uJ cX5_isWord 5 (fun o => .if_icmp .ne o) 24 8 := ⟨19, by decide +kernel, by decide, rfl⟩
theorem dX5_isWord_8 : uD 1 cX5_isWord 8 (.aload_n 0) 9 := ⟨by decide +kernel, rfl⟩
theorem dX5_isWord_9 : uD 3 cX5_isWord 9 (.getfield 31) 12 := ⟨by decide +kernel, rfl⟩
theorem dX5_isWord_12 : uD 1 cX5_isWord 12 (.aload_n 0) 13 := ⟨by decide +kernel, rfl⟩
theorem dX5_isWord_13 : uD 3 cX5_isWord 13 (.getfield 28) 16 := ⟨by decide +kernel, rfl⟩
theorem dX5_isWord_16 : uD 1 cX5_isWord 16 (.isub) 17 := ⟨by decide +kernel, rfl⟩
theorem dX5_isWord_17 : uD 1 cX5_isWord 17 (.aload_n 1) 18 := ⟨by decide +kernel, rfl⟩
theorem dX5_isWord_18 : uD 3 cX5_isWord 18 (.invokevirtual 154) 21 := ⟨by decide +kernel, rfl⟩
theorem dX5_isWord_21 : uJ cX5_isWord 21 (fun o => .if_icmp .eq o) 26 24 := ⟨5, by decide +kernel, by decide, rfl⟩
theorem dX5_isWord_24 : uD 1 cX5_isWord 24 (.iconst 0) 25 := ⟨by decide +kernel, rfl⟩
theorem dX5_isWord_25 : uD 1 cX5_isWord 25 (.ireturn) 26 := ⟨by decide +kernel, rfl⟩
theorem dX5_isWord_26 : uD 1 cX5_isWord 26 (.iconst 0) 27 := ⟨by decide +kernel, rfl⟩
theorem dX5_isWord_27 : uD 1 cX5_isWord 27 (.istore_n 2) 28 := ⟨by decide +kernel, rfl⟩
theorem dX5_isWord_28 : uD 1 cX5_isWord 28 (.iload_n 2) 29 := ⟨by decide +kernel, rfl⟩
theorem dX5_isWord_29 : uD 1 cX5_isWord 29 (.aload_n 1) 30 := ⟨by decide +kernel, rfl⟩
theorem dX5_isWord_30 : uD 3 cX5_isWord 30 (.invokevirtual 154) 33 := ⟨by decide +kernel, rfl⟩
theorem dX5_isWord_33 : uJ cX5_isWord 33 (fun o => .if_icmp .ge o) 76 36 := ⟨43, by decide +kernel, by decide, rfl⟩
theorem dX5_isWord_36 : uD 1 cX5_isWord 36 (.aload_n 0) 37 := ⟨by decide +kernel, rfl⟩
theorem dX5_isWord_37 : uD 3 cX5_isWord 37 (.getfield 28) 40 := ⟨by decide +kernel, rfl⟩
theorem dX5_isWord_40 : uD 1 cX5_isWord 40 (.iload_n 2) 41 := ⟨by decide +kernel, rfl⟩
theorem dX5_isWord_41 : uD 1 cX5_isWord 41 (.iadd) 42 := ⟨by decide +kernel, rfl⟩
theorem dX5_isWord_42 : uD 1 cX5_isWord 42 (.aload_n 0) 43 := ⟨by decide +kernel, rfl⟩
theorem dX5_isWord_43 : uD 3 cX5_isWord 43 (.getfield 15) 46 := ⟨by decide +kernel, rfl⟩
theorem dX5_isWord_46 : uJ cX5_isWord 46 (fun o => .if_icmp .ge o) 76 49 := ⟨30, by decide +kernel, by decide, rfl⟩
theorem dX5_isWord_49 : uD 1 cX5_isWord 49 (.aload_n 0) 50 := ⟨by decide +kernel, rfl⟩
theorem dX5_isWord_50 : uD 3 cX5_isWord 50 (.getfield 9) 53 := ⟨by decide +kernel, rfl⟩
theorem dX5_isWord_53 : uD 1 cX5_isWord 53 (.aload_n 0) 54 := ⟨by decide +kernel, rfl⟩
theorem dX5_isWord_54 : uD 3 cX5_isWord 54 (.getfield 28) 57 := ⟨by decide +kernel, rfl⟩
theorem dX5_isWord_57 : uD 1 cX5_isWord 57 (.iload_n 2) 58 := ⟨by decide +kernel, rfl⟩
theorem dX5_isWord_58 : uD 1 cX5_isWord 58 (.iadd) 59 := ⟨by decide +kernel, rfl⟩
theorem dX5_isWord_59 : uD 1 cX5_isWord 59 (.baload) 60 := ⟨by decide +kernel, rfl⟩
theorem dX5_isWord_60 : uD 1 cX5_isWord 60 (.aload_n 1) 61 := ⟨by decide +kernel, rfl⟩
theorem dX5_isWord_61 : uD 1 cX5_isWord 61 (.iload_n 2) 62 := ⟨by decide +kernel, rfl⟩
theorem dX5_isWord_62 : uD 3 cX5_isWord 62 (.invokevirtual 158) 65 := ⟨by decide +kernel, rfl⟩
theorem dX5_isWord_65 : uJ cX5_isWord 65 (fun o => .if_icmp .eq o) 70 68 := ⟨5, by decide +kernel, by decide, rfl⟩
theorem dX5_isWord_68 : uD 1 cX5_isWord 68 (.iconst 0) 69 := ⟨by decide +kernel, rfl⟩
theorem dX5_isWord_69 : uD 1 cX5_isWord 69 (.ireturn) 70 := ⟨by decide +kernel, rfl⟩
theorem dX5_isWord_70 : uD 3 cX5_isWord 70 (.iinc 2 1) 73 := ⟨by decide +kernel, rfl⟩
theorem dX5_isWord_73 : uJ cX5_isWord 73 (fun o => .goto o) 28 76 := ⟨(-45), by decide +kernel, by decide, rfl⟩
theorem dX5_isWord_76 : uD 1 cX5_isWord 76 (.iconst 1) 77 := ⟨by decide +kernel, rfl⟩
theorem dX5_isWord_77 : uD 1 cX5_isWord 77 (.ireturn) 78 := ⟨by decide +kernel, rfl⟩
theorem dX5_readToken_0 : uD 1 cX5_readToken 0 (.aload_n 0) 1 := ⟨by decide +kernel, rfl⟩
theorem dX5_readToken_1 : uD 1 cX5_readToken 1 (.aload_n 0) 2 := ⟨by decide +kernel, rfl⟩
theorem dX5_readToken_2 : uD 3 cX5_readToken 2 (.getfield 31) 5 := ⟨by decide +kernel, rfl⟩
theorem dX5_readToken_5 : uD 3 cX5_readToken 5 (.putfield 28) 8 := ⟨by decide +kernel, rfl⟩
theorem dX5_readToken_8 : uD 1 cX5_readToken 8 (.aload_n 0) 9 := ⟨by decide +kernel, rfl⟩
theorem dX5_readToken_9 : uD 3 cX5_readToken 9 (.getfield 28) 12 := ⟨by decide +kernel, rfl⟩
theorem dX5_readToken_12 : uD 1 cX5_readToken 12 (.aload_n 0) 13 := ⟨by decide +kernel, rfl⟩
theorem dX5_readToken_13 : uD 3 cX5_readToken 13 (.getfield 15) 16 := ⟨by decide +kernel, rfl⟩
theorem dX5_readToken_16 : uJ cX5_readToken 16 (fun o => .if_icmp .ge o) 47 19 := ⟨31, by decide +kernel, by decide, rfl⟩
theorem dX5_readToken_19 : uD 1 cX5_readToken 19 (.aload_n 0) 20 := ⟨by decide +kernel, rfl⟩
theorem dX5_readToken_20 : uD 3 cX5_readToken 20 (.getfield 9) 23 := ⟨by decide +kernel, rfl⟩
theorem dX5_readToken_23 : uD 1 cX5_readToken 23 (.aload_n 0) 24 := ⟨by decide +kernel, rfl⟩
theorem dX5_readToken_24 : uD 3 cX5_readToken 24 (.getfield 28) 27 := ⟨by decide +kernel, rfl⟩
theorem dX5_readToken_27 : uD 1 cX5_readToken 27 (.baload) 28 := ⟨by decide +kernel, rfl⟩
theorem dX5_readToken_28 : uD 3 cX5_readToken 28 (.invokestatic 162) 31 := ⟨by decide +kernel, rfl⟩
theorem dX5_readToken_31 : uJ cX5_readToken 31 (fun o => .ifCond .eq o) 47 34 := ⟨16, by decide +kernel, by decide, rfl⟩
theorem dX5_readToken_34 : uD 1 cX5_readToken 34 (.aload_n 0) 35 := ⟨by decide +kernel, rfl⟩
theorem dX5_readToken_35 : uD 1 cX5_readToken 35 (.dup) 36 := ⟨by decide +kernel, rfl⟩
theorem dX5_readToken_36 : uD 3 cX5_readToken 36 (.getfield 28) 39 := ⟨by decide +kernel, rfl⟩
theorem dX5_readToken_39 : uD 1 cX5_readToken 39 (.iconst 1) 40 := ⟨by decide +kernel, rfl⟩
theorem dX5_readToken_40 : uD 1 cX5_readToken 40 (.iadd) 41 := ⟨by decide +kernel, rfl⟩
theorem dX5_readToken_41 : uD 3 cX5_readToken 41 (.putfield 28) 44 := ⟨by decide +kernel, rfl⟩
theorem dX5_readToken_44 : uJ cX5_readToken 44 (fun o => .goto o) 8 47 := ⟨(-36), by decide +kernel, by decide, rfl⟩
theorem dX5_readToken_47 : uD 1 cX5_readToken 47 (.aload_n 0) 48 := ⟨by decide +kernel, rfl⟩
theorem dX5_readToken_48 : uD 1 cX5_readToken 48 (.aload_n 0) 49 := ⟨by decide +kernel, rfl⟩
theorem dX5_readToken_49 : uD 3 cX5_readToken 49 (.getfield 28) 52 := ⟨by decide +kernel, rfl⟩
theorem dX5_readToken_52 : uD 3 cX5_readToken 52 (.putfield 31) 55 := ⟨by decide +kernel, rfl⟩
theorem dX5_readToken_55 : uD 1 cX5_readToken 55 (.aload_n 0) 56 := ⟨by decide +kernel, rfl⟩
theorem dX5_readToken_56 : uD 3 cX5_readToken 56 (.getfield 28) 59 := ⟨by decide +kernel, rfl⟩
theorem dX5_readToken_59 : uD 1 cX5_readToken 59 (.aload_n 0) 60 := ⟨by decide +kernel, rfl⟩
theorem dX5_readToken_60 : uD 3 cX5_readToken 60 (.getfield 15) 63 := ⟨by decide +kernel, rfl⟩
theorem dX5_readToken_63 : uJ cX5_readToken 63 (fun o => .if_icmp .lt o) 74 66 := ⟨11, by decide +kernel, by decide, rfl⟩
theorem dX5_readToken_66 : uD 1 cX5_readToken 66 (.aload_n 0) 67 := ⟨by decide +kernel, rfl⟩
theorem dX5_readToken_67 : uD 1 cX5_readToken 67 (.iconst 0) 68 := ⟨by decide +kernel, rfl⟩
theorem dX5_readToken_68 : uD 3 cX5_readToken 68 (.putfield 25) 71 := ⟨by decide +kernel, rfl⟩
theorem dX5_readToken_71 : uJ cX5_readToken 71 (fun o => .goto o) 245 74 := ⟨174, by decide +kernel, by decide, rfl⟩
theorem dX5_readToken_74 : uD 1 cX5_readToken 74 (.aload_n 0) 75 := ⟨by decide +kernel, rfl⟩
theorem dX5_readToken_75 : uD 3 cX5_readToken 75 (.getfield 9) 78 := ⟨by decide +kernel, rfl⟩
theorem dX5_readToken_78 : uD 1 cX5_readToken 78 (.aload_n 0) 79 := ⟨by decide +kernel, rfl⟩
theorem dX5_readToken_79 : uD 3 cX5_readToken 79 (.getfield 28) 82 := ⟨by decide +kernel, rfl⟩
theorem dX5_readToken_82 : uD 1 cX5_readToken 82 (.baload) 83 := ⟨by decide +kernel, rfl⟩
theorem dX5_readToken_83 : uD 3 cX5_readToken 83 (.invokestatic 166) 86 := ⟨by decide +kernel, rfl⟩
theorem dX5_readToken_86 : uJ cX5_readToken 86 (fun o => .ifCond .eq o) 133 89 := ⟨47, by decide +kernel, by decide, rfl⟩
theorem dX5_readToken_89 : uD 1 cX5_readToken 89 (.aload_n 0) 90 := ⟨by decide +kernel, rfl⟩
theorem dX5_readToken_90 : uD 1 cX5_readToken 90 (.iconst 1) 91 := ⟨by decide +kernel, rfl⟩
theorem dX5_readToken_91 : uD 3 cX5_readToken 91 (.putfield 25) 94 := ⟨by decide +kernel, rfl⟩
theorem dX5_readToken_94 : uD 1 cX5_readToken 94 (.aload_n 0) 95 := ⟨by decide +kernel, rfl⟩
theorem dX5_readToken_95 : uD 3 cX5_readToken 95 (.getfield 31) 98 := ⟨by decide +kernel, rfl⟩
theorem dX5_readToken_98 : uD 1 cX5_readToken 98 (.aload_n 0) 99 := ⟨by decide +kernel, rfl⟩
theorem dX5_readToken_99 : uD 3 cX5_readToken 99 (.getfield 15) 102 := ⟨by decide +kernel, rfl⟩
theorem dX5_readToken_102 : uJ cX5_readToken 102 (fun o => .if_icmp .ge o) 245 105 := ⟨143, by decide +kernel, by decide, rfl⟩
theorem dX5_readToken_105 : uD 1 cX5_readToken 105 (.aload_n 0) 106 := ⟨by decide +kernel, rfl⟩
theorem dX5_readToken_106 : uD 3 cX5_readToken 106 (.getfield 9) 109 := ⟨by decide +kernel, rfl⟩
theorem dX5_readToken_109 : uD 1 cX5_readToken 109 (.aload_n 0) 110 := ⟨by decide +kernel, rfl⟩
theorem dX5_readToken_110 : uD 3 cX5_readToken 110 (.getfield 31) 113 := ⟨by decide +kernel, rfl⟩
theorem dX5_readToken_113 : uD 1 cX5_readToken 113 (.baload) 114 := ⟨by decide +kernel, rfl⟩
theorem dX5_readToken_114 : uD 3 cX5_readToken 114 (.invokestatic 166) 117 := ⟨by decide +kernel, rfl⟩
theorem dX5_readToken_117 : uJ cX5_readToken 117 (fun o => .ifCond .eq o) 245 120 := ⟨128, by decide +kernel, by decide, rfl⟩
theorem dX5_readToken_120 : uD 1 cX5_readToken 120 (.aload_n 0) 121 := ⟨by decide +kernel, rfl⟩
theorem dX5_readToken_121 : uD 1 cX5_readToken 121 (.dup) 122 := ⟨by decide +kernel, rfl⟩
theorem dX5_readToken_122 : uD 3 cX5_readToken 122 (.getfield 31) 125 := ⟨by decide +kernel, rfl⟩
theorem dX5_readToken_125 : uD 1 cX5_readToken 125 (.iconst 1) 126 := ⟨by decide +kernel, rfl⟩
theorem dX5_readToken_126 : uD 1 cX5_readToken 126 (.iadd) 127 := ⟨by decide +kernel, rfl⟩
theorem dX5_readToken_127 : uD 3 cX5_readToken 127 (.putfield 31) 130 := ⟨by decide +kernel, rfl⟩
theorem dX5_readToken_130 : uJ cX5_readToken 130 (fun o => .goto o) 94 133 := ⟨(-36), by decide +kernel, by decide, rfl⟩
theorem dX5_readToken_133 : uD 1 cX5_readToken 133 (.aload_n 0) 134 := ⟨by decide +kernel, rfl⟩
theorem dX5_readToken_134 : uD 3 cX5_readToken 134 (.getfield 9) 137 := ⟨by decide +kernel, rfl⟩
theorem dX5_readToken_137 : uD 1 cX5_readToken 137 (.aload_n 0) 138 := ⟨by decide +kernel, rfl⟩
theorem dX5_readToken_138 : uD 3 cX5_readToken 138 (.getfield 28) 141 := ⟨by decide +kernel, rfl⟩
theorem dX5_readToken_141 : uD 1 cX5_readToken 141 (.baload) 142 := ⟨by decide +kernel, rfl⟩
theorem dX5_readToken_142 : uD 3 cX5_readToken 142 (.invokestatic 169) 145 := ⟨by decide +kernel, rfl⟩
theorem dX5_readToken_145 : uJ cX5_readToken 145 (fun o => .ifCond .eq o) 212 148 := ⟨67, by decide +kernel, by decide, rfl⟩
theorem dX5_readToken_148 : uD 1 cX5_readToken 148 (.aload_n 0) 149 := ⟨by decide +kernel, rfl⟩
theorem dX5_readToken_149 : uD 3 cX5_readToken 149 (.getfield 31) 152 := ⟨by decide +kernel, rfl⟩
theorem dX5_readToken_152 : uD 1 cX5_readToken 152 (.aload_n 0) 153 := ⟨by decide +kernel, rfl⟩
theorem dX5_readToken_153 : uD 3 cX5_readToken 153 (.getfield 15) 156 := ⟨by decide +kernel, rfl⟩
theorem dX5_readToken_156 : uJ cX5_readToken 156 (fun o => .if_icmp .ge o) 187 159 := ⟨31, by decide +kernel, by decide, rfl⟩
theorem dX5_readToken_159 : uD 1 cX5_readToken 159 (.aload_n 0) 160 := ⟨by decide +kernel, rfl⟩
theorem dX5_readToken_160 : uD 3 cX5_readToken 160 (.getfield 9) 163 := ⟨by decide +kernel, rfl⟩
theorem dX5_readToken_163 : uD 1 cX5_readToken 163 (.aload_n 0) 164 := ⟨by decide +kernel, rfl⟩
theorem dX5_readToken_164 : uD 3 cX5_readToken 164 (.getfield 31) 167 := ⟨by decide +kernel, rfl⟩
theorem dX5_readToken_167 : uD 1 cX5_readToken 167 (.baload) 168 := ⟨by decide +kernel, rfl⟩
theorem dX5_readToken_168 : uD 3 cX5_readToken 168 (.invokestatic 169) 171 := ⟨by decide +kernel, rfl⟩
theorem dX5_readToken_171 : uJ cX5_readToken 171 (fun o => .ifCond .eq o) 187 174 := ⟨16, by decide +kernel, by decide, rfl⟩
theorem dX5_readToken_174 : uD 1 cX5_readToken 174 (.aload_n 0) 175 := ⟨by decide +kernel, rfl⟩
theorem dX5_readToken_175 : uD 1 cX5_readToken 175 (.dup) 176 := ⟨by decide +kernel, rfl⟩
theorem dX5_readToken_176 : uD 3 cX5_readToken 176 (.getfield 31) 179 := ⟨by decide +kernel, rfl⟩
theorem dX5_readToken_179 : uD 1 cX5_readToken 179 (.iconst 1) 180 := ⟨by decide +kernel, rfl⟩
theorem dX5_readToken_180 : uD 1 cX5_readToken 180 (.iadd) 181 := ⟨by decide +kernel, rfl⟩
theorem dX5_readToken_181 : uD 3 cX5_readToken 181 (.putfield 31) 184 := ⟨by decide +kernel, rfl⟩
theorem dX5_readToken_184 : uJ cX5_readToken 184 (fun o => .goto o) 148 187 := ⟨(-36), by decide +kernel, by decide, rfl⟩
theorem dX5_readToken_187 : uD 1 cX5_readToken 187 (.aload_n 0) 188 := ⟨by decide +kernel, rfl⟩
theorem dX5_readToken_188 : uD 1 cX5_readToken 188 (.aload_n 0) 189 := ⟨by decide +kernel, rfl⟩
theorem dX5_readToken_189 : uD 3 cX5_readToken 189 (.getfield 31) 192 := ⟨by decide +kernel, rfl⟩
theorem dX5_readToken_192 : uD 1 cX5_readToken 192 (.aload_n 0) 193 := ⟨by decide +kernel, rfl⟩
theorem dX5_readToken_193 : uD 3 cX5_readToken 193 (.getfield 28) 196 := ⟨by decide +kernel, rfl⟩
theorem dX5_readToken_196 : uD 1 cX5_readToken 196 (.isub) 197 := ⟨by decide +kernel, rfl⟩
theorem dX5_readToken_197 : uD 1 cX5_readToken 197 (.iconst 4) 198 := ⟨by decide +kernel, rfl⟩
theorem dX5_readToken_198 : uJ cX5_readToken 198 (fun o => .if_icmp .gt o) 205 201 := ⟨7, by decide +kernel, by decide, rfl⟩
theorem dX5_readToken_201 : uD 1 cX5_readToken 201 (.iconst 2) 202 := ⟨by decide +kernel, rfl⟩
theorem dX5_readToken_202 : uJ cX5_readToken 202 (fun o => .goto o) 206 205 := ⟨4, by decide +kernel, by decide, rfl⟩
theorem dX5_readToken_205 : uD 1 cX5_readToken 205 (.iconst 4) 206 := ⟨by decide +kernel, rfl⟩
theorem dX5_readToken_206 : uD 3 cX5_readToken 206 (.putfield 25) 209 := ⟨by decide +kernel, rfl⟩
theorem dX5_readToken_209 : uJ cX5_readToken 209 (fun o => .goto o) 245 212 := ⟨36, by decide +kernel, by decide, rfl⟩
theorem dX5_readToken_212 : uD 1 cX5_readToken 212 (.aload_n 0) 213 := ⟨by decide +kernel, rfl⟩
theorem dX5_readToken_213 : uD 1 cX5_readToken 213 (.aload_n 0) 214 := ⟨by decide +kernel, rfl⟩
theorem dX5_readToken_214 : uD 3 cX5_readToken 214 (.getfield 9) 217 := ⟨by decide +kernel, rfl⟩
theorem dX5_readToken_217 : uD 1 cX5_readToken 217 (.aload_n 0) 218 := ⟨by decide +kernel, rfl⟩
theorem dX5_readToken_218 : uD 3 cX5_readToken 218 (.getfield 28) 221 := ⟨by decide +kernel, rfl⟩
theorem dX5_readToken_221 : uD 1 cX5_readToken 221 (.baload) 222 := ⟨by decide +kernel, rfl⟩
theorem dX5_readToken_222 : uD 2 cX5_readToken 222 (.bipush 59) 224 := ⟨by decide +kernel, rfl⟩
theorem dX5_readToken_224 : uJ cX5_readToken 224 (fun o => .if_icmp .ne o) 231 227 := ⟨7, by decide +kernel, by decide, rfl⟩
theorem dX5_readToken_227 : uD 1 cX5_readToken 227 (.iconst 3) 228 := ⟨by decide +kernel, rfl⟩
theorem dX5_readToken_228 : uJ cX5_readToken 228 (fun o => .goto o) 232 231 := ⟨4, by decide +kernel, by decide, rfl⟩
theorem dX5_readToken_231 : uD 1 cX5_readToken 231 (.iconst 4) 232 := ⟨by decide +kernel, rfl⟩
theorem dX5_readToken_232 : uD 3 cX5_readToken 232 (.putfield 25) 235 := ⟨by decide +kernel, rfl⟩
theorem dX5_readToken_235 : uD 1 cX5_readToken 235 (.aload_n 0) 236 := ⟨by decide +kernel, rfl⟩
theorem dX5_readToken_236 : uD 1 cX5_readToken 236 (.dup) 237 := ⟨by decide +kernel, rfl⟩
theorem dX5_readToken_237 : uD 3 cX5_readToken 237 (.getfield 31) 240 := ⟨by decide +kernel, rfl⟩
theorem dX5_readToken_240 : uD 1 cX5_readToken 240 (.iconst 1) 241 := ⟨by decide +kernel, rfl⟩
theorem dX5_readToken_241 : uD 1 cX5_readToken 241 (.iadd) 242 := ⟨by decide +kernel, rfl⟩
theorem dX5_readToken_242 : uD 3 cX5_readToken 242 (.putfield 31) 245 := ⟨by decide +kernel, rfl⟩
theorem dX5_readToken_245 : uD 1 cX5_readToken 245 (.return_) 246 := ⟨by decide +kernel, rfl⟩
theorem dX5_isBlank_0 : uD 1 cX5_isBlank 0 (.iload_n 0) 1 := ⟨by decide +kernel, rfl⟩
theorem dX5_isBlank_1 : uD 2 cX5_isBlank 1 (.bipush 10) 3 := ⟨by decide +kernel, rfl⟩
theorem dX5_isBlank_3 : uJ cX5_isBlank 3 (fun o => .if_icmp .eq o) 12 6 := ⟨9, by decide +kernel, by decide, rfl⟩
theorem dX5_isBlank_6 : uD 1 cX5_isBlank 6 (.iload_n 0) 7 := ⟨by decide +kernel, rfl⟩
theorem dX5_isBlank_7 : uD 2 cX5_isBlank 7 (.bipush 32) 9 := ⟨by decide +kernel, rfl⟩
theorem dX5_isBlank_9 : uJ cX5_isBlank 9 (fun o => .if_icmp .ne o) 16 12 := ⟨7, by decide +kernel, by decide, rfl⟩
theorem dX5_isBlank_12 : uD 1 cX5_isBlank 12 (.iconst 1) 13 := ⟨by decide +kernel, rfl⟩
theorem dX5_isBlank_13 : uJ cX5_isBlank 13 (fun o => .goto o) 17 16 := ⟨4, by decide +kernel, by decide, rfl⟩
theorem dX5_isBlank_16 : uD 1 cX5_isBlank 16 (.iconst 0) 17 := ⟨by decide +kernel, rfl⟩
theorem dX5_isBlank_17 : uD 1 cX5_isBlank 17 (.ireturn) 18 := ⟨by decide +kernel, rfl⟩
theorem dX5_isLetter_0 : uD 1 cX5_isLetter 0 (.iload_n 0) 1 := ⟨by decide +kernel, rfl⟩
theorem dX5_isLetter_1 : uD 2 cX5_isLetter 1 (.bipush 97) 3 := ⟨by decide +kernel, rfl⟩
theorem dX5_isLetter_3 : uJ cX5_isLetter 3 (fun o => .if_icmp .lt o) 16 6 := ⟨13, by decide +kernel, by decide, rfl⟩
theorem dX5_isLetter_6 : uD 1 cX5_isLetter 6 (.iload_n 0) 7 := ⟨by decide +kernel, rfl⟩
theorem dX5_isLetter_7 : uD 2 cX5_isLetter 7 (.bipush 122) 9 := ⟨by decide +kernel, rfl⟩
theorem dX5_isLetter_9 : uJ cX5_isLetter 9 (fun o => .if_icmp .gt o) 16 12 := ⟨7, by decide +kernel, by decide, rfl⟩
theorem dX5_isLetter_12 : uD 1 cX5_isLetter 12 (.iconst 1) 13 := ⟨by decide +kernel, rfl⟩
theorem dX5_isLetter_13 : uJ cX5_isLetter 13 (fun o => .goto o) 17 16 := ⟨4, by decide +kernel, by decide, rfl⟩
theorem dX5_isLetter_16 : uD 1 cX5_isLetter 16 (.iconst 0) 17 := ⟨by decide +kernel, rfl⟩
theorem dX5_isLetter_17 : uD 1 cX5_isLetter 17 (.ireturn) 18 := ⟨by decide +kernel, rfl⟩
theorem dX5_isDigit_0 : uD 1 cX5_isDigit 0 (.iload_n 0) 1 := ⟨by decide +kernel, rfl⟩
theorem dX5_isDigit_1 : uD 2 cX5_isDigit 1 (.bipush 48) 3 := ⟨by decide +kernel, rfl⟩
theorem dX5_isDigit_3 : uJ cX5_isDigit 3 (fun o => .if_icmp .lt o) 16 6 := ⟨13, by decide +kernel, by decide, rfl⟩
theorem dX5_isDigit_6 : uD 1 cX5_isDigit 6 (.iload_n 0) 7 := ⟨by decide +kernel, rfl⟩
theorem dX5_isDigit_7 : uD 2 cX5_isDigit 7 (.bipush 57) 9 := ⟨by decide +kernel, rfl⟩
theorem dX5_isDigit_9 : uJ cX5_isDigit 9 (fun o => .if_icmp .gt o) 16 12 := ⟨7, by decide +kernel, by decide, rfl⟩
theorem dX5_isDigit_12 : uD 1 cX5_isDigit 12 (.iconst 1) 13 := ⟨by decide +kernel, rfl⟩
theorem dX5_isDigit_13 : uJ cX5_isDigit 13 (fun o => .goto o) 17 16 := ⟨4, by decide +kernel, by decide, rfl⟩
theorem dX5_isDigit_16 : uD 1 cX5_isDigit 16 (.iconst 0) 17 := ⟨by decide +kernel, rfl⟩
theorem dX5_isDigit_17 : uD 1 cX5_isDigit 17 (.ireturn) 18 := ⟨by decide +kernel, rfl⟩
theorem dX6_init_0 : uD 1 cX6_init 0 (.aload_n 0) 1 := ⟨by decide +kernel, rfl⟩
theorem dX6_init_1 : uD 3 cX6_init 1 (.invokespecial 3) 4 := ⟨by decide +kernel, rfl⟩
theorem dX6_init_4 : uD 1 cX6_init 4 (.aload_n 0) 5 := ⟨by decide +kernel, rfl⟩
theorem dX6_init_5 : uD 3 cX6_init 5 (.new 9) 8 := ⟨by decide +kernel, rfl⟩
theorem dX6_init_8 : uD 1 cX6_init 8 (.dup) 9 := ⟨by decide +kernel, rfl⟩
theorem dX6_init_9 : uD 3 cX6_init 9 (.invokespecial 11) 12 := ⟨by decide +kernel, rfl⟩
theorem dX6_init_12 : uD 3 cX6_init 12 (.putfield 12) 15 := ⟨by decide +kernel, rfl⟩
theorem dX6_init_15 : uD 1 cX6_init 15 (.aload_n 0) 16 := ⟨by decide +kernel, rfl⟩
theorem dX6_init_16 : uD 3 cX6_init 16 (.new 18) 19 := ⟨by decide +kernel, rfl⟩
theorem dX6_init_19 : uD 1 cX6_init 19 (.dup) 20 := ⟨by decide +kernel, rfl⟩
theorem dX6_init_20 : uD 3 cX6_init 20 (.invokespecial 20) 23 := ⟨by decide +kernel, rfl⟩
theorem dX6_init_23 : uD 3 cX6_init 23 (.putfield 21) 26 := ⟨by decide +kernel, rfl⟩
theorem dX6_init_26 : uD 1 cX6_init 26 (.aload_n 0) 27 := ⟨by decide +kernel, rfl⟩
theorem dX6_init_27 : uD 3 cX6_init 27 (.new 25) 30 := ⟨by decide +kernel, rfl⟩
theorem dX6_init_30 : uD 1 cX6_init 30 (.dup) 31 := ⟨by decide +kernel, rfl⟩
theorem dX6_init_31 : uD 3 cX6_init 31 (.invokespecial 27) 34 := ⟨by decide +kernel, rfl⟩
theorem dX6_init_34 : uD 3 cX6_init 34 (.putfield 28) 37 := ⟨by decide +kernel, rfl⟩
theorem dX6_init_37 : uD 1 cX6_init 37 (.aload_n 0) 38 := ⟨by decide +kernel, rfl⟩
theorem dX6_init_38 : uD 3 cX6_init 38 (.new 32) 41 := ⟨by decide +kernel, rfl⟩
theorem dX6_init_41 : uD 1 cX6_init 41 (.dup) 42 := ⟨by decide +kernel, rfl⟩
theorem dX6_init_42 : uD 3 cX6_init 42 (.invokespecial 34) 45 := ⟨by decide +kernel, rfl⟩
theorem dX6_init_45 : uD 3 cX6_init 45 (.putfield 35) 48 := ⟨by decide +kernel, rfl⟩
theorem dX6_init_48 : uD 1 cX6_init 48 (.aload_n 0) 49 := ⟨by decide +kernel, rfl⟩
theorem dX6_init_49 : uD 2 cX6_init 49 (.bipush 7) 51 := ⟨by decide +kernel, rfl⟩
theorem dX6_init_51 : uD 2 cX6_init 51 (.newarray .int) 53 := ⟨by decide +kernel, rfl⟩
theorem dX6_init_53 : uD 3 cX6_init 53 (.putfield 39) 56 := ⟨by decide +kernel, rfl⟩
theorem dX6_init_56 : uD 1 cX6_init 56 (.aload_n 0) 57 := ⟨by decide +kernel, rfl⟩
theorem dX6_init_57 : uD 1 cX6_init 57 (.iconst 0) 58 := ⟨by decide +kernel, rfl⟩
theorem dX6_init_58 : uD 3 cX6_init 58 (.putfield 43) 61 := ⟨by decide +kernel, rfl⟩
theorem dX6_init_61 : uD 1 cX6_init 61 (.aload_n 0) 62 := ⟨by decide +kernel, rfl⟩
theorem dX6_init_62 : uD 1 cX6_init 62 (.iconst 1) 63 := ⟨by decide +kernel, rfl⟩
theorem dX6_init_63 : uD 3 cX6_init 63 (.putfield 47) 66 := ⟨by decide +kernel, rfl⟩
theorem dX6_init_66 : uD 1 cX6_init 66 (.return_) 67 := ⟨by decide +kernel, rfl⟩
theorem dX6_copyFrom_0 : uD 1 cX6_copyFrom 0 (.aload_n 0) 1 := ⟨by decide +kernel, rfl⟩
theorem dX6_copyFrom_1 : uD 3 cX6_copyFrom 1 (.getfield 12) 4 := ⟨by decide +kernel, rfl⟩
theorem dX6_copyFrom_4 : uD 1 cX6_copyFrom 4 (.aload_n 1) 5 := ⟨by decide +kernel, rfl⟩
theorem dX6_copyFrom_5 : uD 3 cX6_copyFrom 5 (.getfield 12) 8 := ⟨by decide +kernel, rfl⟩
theorem dX6_copyFrom_8 : uD 3 cX6_copyFrom 8 (.invokevirtual 51) 11 := ⟨by decide +kernel, rfl⟩
theorem dX6_copyFrom_11 : uD 1 cX6_copyFrom 11 (.aload_n 0) 12 := ⟨by decide +kernel, rfl⟩
theorem dX6_copyFrom_12 : uD 3 cX6_copyFrom 12 (.getfield 21) 15 := ⟨by decide +kernel, rfl⟩
theorem dX6_copyFrom_15 : uD 1 cX6_copyFrom 15 (.aload_n 1) 16 := ⟨by decide +kernel, rfl⟩
theorem dX6_copyFrom_16 : uD 3 cX6_copyFrom 16 (.getfield 21) 19 := ⟨by decide +kernel, rfl⟩
theorem dX6_copyFrom_19 : uD 3 cX6_copyFrom 19 (.invokevirtual 55) 22 := ⟨by decide +kernel, rfl⟩
theorem dX6_copyFrom_22 : uD 1 cX6_copyFrom 22 (.aload_n 0) 23 := ⟨by decide +kernel, rfl⟩
theorem dX6_copyFrom_23 : uD 3 cX6_copyFrom 23 (.getfield 28) 26 := ⟨by decide +kernel, rfl⟩
theorem dX6_copyFrom_26 : uD 1 cX6_copyFrom 26 (.aload_n 1) 27 := ⟨by decide +kernel, rfl⟩
theorem dX6_copyFrom_27 : uD 3 cX6_copyFrom 27 (.getfield 28) 30 := ⟨by decide +kernel, rfl⟩
theorem dX6_copyFrom_30 : uD 3 cX6_copyFrom 30 (.invokevirtual 58) 33 := ⟨by decide +kernel, rfl⟩
theorem dX6_copyFrom_33 : uD 1 cX6_copyFrom 33 (.aload_n 0) 34 := ⟨by decide +kernel, rfl⟩
theorem dX6_copyFrom_34 : uD 3 cX6_copyFrom 34 (.getfield 35) 37 := ⟨by decide +kernel, rfl⟩
theorem dX6_copyFrom_37 : uD 1 cX6_copyFrom 37 (.aload_n 1) 38 := ⟨by decide +kernel, rfl⟩
theorem dX6_copyFrom_38 : uD 3 cX6_copyFrom 38 (.getfield 35) 41 := ⟨by decide +kernel, rfl⟩
theorem dX6_copyFrom_41 : uD 3 cX6_copyFrom 41 (.invokevirtual 61) 44 := ⟨by decide +kernel, rfl⟩
theorem dX6_copyFrom_44 : uD 1 cX6_copyFrom 44 (.aload_n 1) 45 := ⟨by decide +kernel, rfl⟩
theorem dX6_copyFrom_45 : uD 3 cX6_copyFrom 45 (.getfield 39) 48 := ⟨by decide +kernel, rfl⟩
theorem dX6_copyFrom_48 : uD 1 cX6_copyFrom 48 (.iconst 0) 49 := ⟨by decide +kernel, rfl⟩
theorem dX6_copyFrom_49 : uD 1 cX6_copyFrom 49 (.aload_n 0) 50 := ⟨by decide +kernel, rfl⟩
theorem dX6_copyFrom_50 : uD 3 cX6_copyFrom 50 (.getfield 39) 53 := ⟨by decide +kernel, rfl⟩
theorem dX6_copyFrom_53 : uD 1 cX6_copyFrom 53 (.iconst 0) 54 := ⟨by decide +kernel, rfl⟩
theorem dX6_copyFrom_54 : uD 2 cX6_copyFrom 54 (.bipush 7) 56 := ⟨by decide +kernel, rfl⟩
theorem dX6_copyFrom_56 : uD 3 cX6_copyFrom 56 (.invokestatic 64) 59 := ⟨by decide +kernel, rfl⟩
theorem dX6_copyFrom_59 : uD 1 cX6_copyFrom 59 (.aload_n 0) 60 := ⟨by decide +kernel, rfl⟩
theorem dX6_copyFrom_60 : uD 1 cX6_copyFrom 60 (.aload_n 1) 61 := ⟨by decide +kernel, rfl⟩
theorem dX6_copyFrom_61 : uD 3 cX6_copyFrom 61 (.getfield 43) 64 := ⟨by decide +kernel, rfl⟩
theorem dX6_copyFrom_64 : uD 3 cX6_copyFrom 64 (.putfield 43) 67 := ⟨by decide +kernel, rfl⟩
theorem dX6_copyFrom_67 : uD 1 cX6_copyFrom 67 (.aload_n 0) 68 := ⟨by decide +kernel, rfl⟩
theorem dX6_copyFrom_68 : uD 1 cX6_copyFrom 68 (.aload_n 1) 69 := ⟨by decide +kernel, rfl⟩
theorem dX6_copyFrom_69 : uD 3 cX6_copyFrom 69 (.getfield 47) 72 := ⟨by decide +kernel, rfl⟩
theorem dX6_copyFrom_72 : uD 3 cX6_copyFrom 72 (.putfield 47) 75 := ⟨by decide +kernel, rfl⟩
theorem dX6_copyFrom_75 : uD 1 cX6_copyFrom 75 (.return_) 76 := ⟨by decide +kernel, rfl⟩
theorem dX6_usableBlocks_0 : uD 1 cX6_usableBlocks 0 (.iconst 0) 1 := ⟨by decide +kernel, rfl⟩
theorem dX6_usableBlocks_1 : uD 1 cX6_usableBlocks 1 (.istore_n 1) 2 := ⟨by decide +kernel, rfl⟩
theorem dX6_usableBlocks_2 : uD 1 cX6_usableBlocks 2 (.iconst 0) 3 := ⟨by decide +kernel, rfl⟩
theorem dX6_usableBlocks_3 : uD 1 cX6_usableBlocks 3 (.istore_n 2) 4 := ⟨by decide +kernel, rfl⟩
theorem dX6_usableBlocks_4 : uD 1 cX6_usableBlocks 4 (.iload_n 2) 5 := ⟨by decide +kernel, rfl⟩
theorem dX6_usableBlocks_5 : uD 1 cX6_usableBlocks 5 (.aload_n 0) 6 := ⟨by decide +kernel, rfl⟩
theorem dX6_usableBlocks_6 : uD 3 cX6_usableBlocks 6 (.getfield 35) 9 := ⟨by decide +kernel, rfl⟩
theorem dX6_usableBlocks_9 : uD 3 cX6_usableBlocks 9 (.getfield 70) 12 := ⟨by decide +kernel, rfl⟩
theorem dX6_usableBlocks_12 : uJ cX6_usableBlocks 12 (fun o => .if_icmp .ge o) 47 15 := ⟨35, by decide +kernel, by decide, rfl⟩
theorem dX6_usableBlocks_15 : uD 1 cX6_usableBlocks 15 (.aload_n 0) 16 := ⟨by decide +kernel, rfl⟩
theorem dX6_usableBlocks_16 : uD 3 cX6_usableBlocks 16 (.getfield 28) 19 := ⟨by decide +kernel, rfl⟩
theorem dX6_usableBlocks_19 : uD 3 cX6_usableBlocks 19 (.getfield 73) 22 := ⟨by decide +kernel, rfl⟩
theorem dX6_usableBlocks_22 : uD 1 cX6_usableBlocks 22 (.aload_n 0) 23 := ⟨by decide +kernel, rfl⟩
theorem dX6_usableBlocks_23 : uD 3 cX6_usableBlocks 23 (.getfield 35) 26 := ⟨by decide +kernel, rfl⟩
theorem dX6_usableBlocks_26 : uD 3 cX6_usableBlocks 26 (.getfield 77) 29 := ⟨by decide +kernel, rfl⟩
theorem dX6_usableBlocks_29 : uD 1 cX6_usableBlocks 29 (.iload_n 2) 30 := ⟨by decide +kernel, rfl⟩
theorem dX6_usableBlocks_30 : uD 1 cX6_usableBlocks 30 (.iaload) 31 := ⟨by decide +kernel, rfl⟩
theorem dX6_usableBlocks_31 : uD 1 cX6_usableBlocks 31 (.baload) 32 := ⟨by decide +kernel, rfl⟩
theorem dX6_usableBlocks_32 : uJ cX6_usableBlocks 32 (fun o => .ifCond .ne o) 41 35 := ⟨9, by decide +kernel, by decide, rfl⟩
theorem dX6_usableBlocks_35 : uD 1 cX6_usableBlocks 35 (.iload_n 1) 36 := ⟨by decide +kernel, rfl⟩
theorem dX6_usableBlocks_36 : uD 1 cX6_usableBlocks 36 (.iconst 1) 37 := ⟨by decide +kernel, rfl⟩
theorem dX6_usableBlocks_37 : uD 1 cX6_usableBlocks 37 (.iload_n 2) 38 := ⟨by decide +kernel, rfl⟩
theorem dX6_usableBlocks_38 : uD 1 cX6_usableBlocks 38 (.ishl) 39 := ⟨by decide +kernel, rfl⟩
theorem dX6_usableBlocks_39 : uD 1 cX6_usableBlocks 39 (.ior) 40 := ⟨by decide +kernel, rfl⟩
theorem dX6_usableBlocks_40 : uD 1 cX6_usableBlocks 40 (.istore_n 1) 41 := ⟨by decide +kernel, rfl⟩
theorem dX6_usableBlocks_41 : uD 3 cX6_usableBlocks 41 (.iinc 2 1) 44 := ⟨by decide +kernel, rfl⟩
theorem dX6_usableBlocks_44 : uJ cX6_usableBlocks 44 (fun o => .goto o) 4 47 := ⟨(-40), by decide +kernel, by decide, rfl⟩
theorem dX6_usableBlocks_47 : uD 1 cX6_usableBlocks 47 (.iload_n 1) 48 := ⟨by decide +kernel, rfl⟩
theorem dX6_usableBlocks_48 : uD 1 cX6_usableBlocks 48 (.ireturn) 49 := ⟨by decide +kernel, rfl⟩
theorem dX6_neededEnergy_0 : uD 1 cX6_neededEnergy 0 (.aload_n 0) 1 := ⟨by decide +kernel, rfl⟩
theorem dX6_neededEnergy_1 : uD 3 cX6_neededEnergy 1 (.getfield 28) 4 := ⟨by decide +kernel, rfl⟩
theorem dX6_neededEnergy_4 : uD 1 cX6_neededEnergy 4 (.aload_n 0) 5 := ⟨by decide +kernel, rfl⟩
theorem dX6_neededEnergy_5 : uD 3 cX6_neededEnergy 5 (.getfield 35) 8 := ⟨by decide +kernel, rfl⟩
theorem dX6_neededEnergy_8 : uD 1 cX6_neededEnergy 8 (.aload_n 0) 9 := ⟨by decide +kernel, rfl⟩
theorem dX6_neededEnergy_9 : uD 3 cX6_neededEnergy 9 (.invokevirtual 80) 12 := ⟨by decide +kernel, rfl⟩
theorem dX6_neededEnergy_12 : uD 3 cX6_neededEnergy 12 (.invokevirtual 84) 15 := ⟨by decide +kernel, rfl⟩
theorem dX6_neededEnergy_15 : uD 1 cX6_neededEnergy 15 (.ireturn) 16 := ⟨by decide +kernel, rfl⟩
theorem dX6_passMinute_0 : uD 1 cX6_passMinute 0 (.aload_n 0) 1 := ⟨by decide +kernel, rfl⟩
theorem dX6_passMinute_1 : uD 1 cX6_passMinute 1 (.dup) 2 := ⟨by decide +kernel, rfl⟩
theorem dX6_passMinute_2 : uD 3 cX6_passMinute 2 (.getfield 43) 5 := ⟨by decide +kernel, rfl⟩
theorem dX6_passMinute_5 : uD 1 cX6_passMinute 5 (.iconst 1) 6 := ⟨by decide +kernel, rfl⟩
theorem dX6_passMinute_6 : uD 1 cX6_passMinute 6 (.iadd) 7 := ⟨by decide +kernel, rfl⟩
theorem dX6_passMinute_7 : uD 3 cX6_passMinute 7 (.putfield 43) 10 := ⟨by decide +kernel, rfl⟩
theorem dX6_passMinute_10 : uD 1 cX6_passMinute 10 (.aload_n 0) 11 := ⟨by decide +kernel, rfl⟩
theorem dX6_passMinute_11 : uD 3 cX6_passMinute 11 (.getfield 47) 14 := ⟨by decide +kernel, rfl⟩
theorem dX6_passMinute_14 : uJ cX6_passMinute 14 (fun o => .ifCond .eq o) 26 17 := ⟨12, by decide +kernel, by decide, rfl⟩
theorem dX6_passMinute_17 : uD 1 cX6_passMinute 17 (.aload_n 0) 18 := ⟨by decide +kernel, rfl⟩
theorem dX6_passMinute_18 : uD 3 cX6_passMinute 18 (.getfield 12) 21 := ⟨by decide +kernel, rfl⟩
theorem dX6_passMinute_21 : uD 3 cX6_passMinute 21 (.invokevirtual 88) 24 := ⟨by decide +kernel, rfl⟩
theorem dX6_passMinute_24 : uD 1 cX6_passMinute 24 (.iconst 0) 25 := ⟨by decide +kernel, rfl⟩
theorem dX6_passMinute_25 : uD 1 cX6_passMinute 25 (.ireturn) 26 := ⟨by decide +kernel, rfl⟩
theorem dX6_passMinute_26 : uD 1 cX6_passMinute 26 (.aload_n 0) 27 := ⟨by decide +kernel, rfl⟩
theorem dX6_passMinute_27 : uD 3 cX6_passMinute 27 (.getfield 12) 30 := ⟨by decide +kernel, rfl⟩
theorem dX6_passMinute_30 : uD 3 cX6_passMinute 30 (.invokevirtual 91) 33 := ⟨by decide +kernel, rfl⟩
theorem dX6_passMinute_33 : uD 1 cX6_passMinute 33 (.aload_n 0) 34 := ⟨by decide +kernel, rfl⟩
theorem dX6_passMinute_34 : uD 3 cX6_passMinute 34 (.getfield 12) 37 := ⟨by decide +kernel, rfl⟩
theorem dX6_passMinute_37 : uD 3 cX6_passMinute 37 (.getfield 94) 40 := ⟨by decide +kernel, rfl⟩
theorem dX6_passMinute_40 : uJ cX6_passMinute 40 (fun o => .ifCond .ne o) 50 43 := ⟨10, by decide +kernel, by decide, rfl⟩
theorem dX6_passMinute_43 : uD 1 cX6_passMinute 43 (.aload_n 0) 44 := ⟨by decide +kernel, rfl⟩
theorem dX6_passMinute_44 : uD 3 cX6_passMinute 44 (.invokevirtual 97) 47 := ⟨by decide +kernel, rfl⟩
theorem dX6_passMinute_47 : uJ cX6_passMinute 47 (fun o => .goto o) 51 50 := ⟨4, by decide +kernel, by decide, rfl⟩
theorem dX6_passMinute_50 : uD 1 cX6_passMinute 50 (.iconst 0) 51 := ⟨by decide +kernel, rfl⟩
theorem dX6_passMinute_51 : uD 1 cX6_passMinute 51 (.ireturn) 52 := ⟨by decide +kernel, rfl⟩
theorem dX6_loseAll_0 : uD 1 cX6_loseAll 0 (.aload_n 0) 1 := ⟨by decide +kernel, rfl⟩
theorem dX6_loseAll_1 : uD 3 cX6_loseAll 1 (.getfield 35) 4 := ⟨by decide +kernel, rfl⟩
theorem dX6_loseAll_4 : uD 1 cX6_loseAll 4 (.aload_n 0) 5 := ⟨by decide +kernel, rfl⟩
theorem dX6_loseAll_5 : uD 3 cX6_loseAll 5 (.getfield 35) 8 := ⟨by decide +kernel, rfl⟩
theorem dX6_loseAll_8 : uD 3 cX6_loseAll 8 (.invokevirtual 100) 11 := ⟨by decide +kernel, rfl⟩
theorem dX6_loseAll_11 : uD 3 cX6_loseAll 11 (.invokevirtual 103) 14 := ⟨by decide +kernel, rfl⟩
theorem dX6_loseAll_14 : uD 1 cX6_loseAll 14 (.istore_n 1) 15 := ⟨by decide +kernel, rfl⟩
theorem dX6_loseAll_15 : uD 1 cX6_loseAll 15 (.aload_n 0) 16 := ⟨by decide +kernel, rfl⟩
theorem dX6_loseAll_16 : uD 3 cX6_loseAll 16 (.getfield 39) 19 := ⟨by decide +kernel, rfl⟩
theorem dX6_loseAll_19 : uD 1 cX6_loseAll 19 (.iconst 3) 20 := ⟨by decide +kernel, rfl⟩
theorem dX6_loseAll_20 : uD 1 cX6_loseAll 20 (.dup2) 21 := ⟨by decide +kernel, rfl⟩
theorem dX6_loseAll_21 : uD 1 cX6_loseAll 21 (.iaload) 22 := ⟨by decide +kernel, rfl⟩
theorem dX6_loseAll_22 : uD 1 cX6_loseAll 22 (.aload_n 0) 23 := ⟨by decide +kernel, rfl⟩
theorem dX6_loseAll_23 : uD 3 cX6_loseAll 23 (.getfield 35) 26 := ⟨by decide +kernel, rfl⟩
theorem dX6_loseAll_26 : uD 3 cX6_loseAll 26 (.getfield 70) 29 := ⟨by decide +kernel, rfl⟩
theorem dX6_loseAll_29 : uD 1 cX6_loseAll 29 (.iadd) 30 := ⟨by decide +kernel, rfl⟩
theorem dX6_loseAll_30 : uD 1 cX6_loseAll 30 (.iastore) 31 := ⟨by decide +kernel, rfl⟩
theorem dX6_loseAll_31 : uD 1 cX6_loseAll 31 (.aload_n 0) 32 := ⟨by decide +kernel, rfl⟩
theorem dX6_loseAll_32 : uD 3 cX6_loseAll 32 (.getfield 39) 35 := ⟨by decide +kernel, rfl⟩
theorem dX6_loseAll_35 : uD 1 cX6_loseAll 35 (.iconst 5) 36 := ⟨by decide +kernel, rfl⟩
theorem dX6_loseAll_36 : uD 1 cX6_loseAll 36 (.dup2) 37 := ⟨by decide +kernel, rfl⟩
theorem dX6_loseAll_37 : uD 1 cX6_loseAll 37 (.iaload) 38 := ⟨by decide +kernel, rfl⟩
theorem dX6_loseAll_38 : uD 1 cX6_loseAll 38 (.iload_n 1) 39 := ⟨by decide +kernel, rfl⟩
theorem dX6_loseAll_39 : uD 1 cX6_loseAll 39 (.iadd) 40 := ⟨by decide +kernel, rfl⟩
theorem dX6_loseAll_40 : uD 1 cX6_loseAll 40 (.iastore) 41 := ⟨by decide +kernel, rfl⟩
theorem dX6_loseAll_41 : uD 1 cX6_loseAll 41 (.aload_n 0) 42 := ⟨by decide +kernel, rfl⟩
theorem dX6_loseAll_42 : uD 3 cX6_loseAll 42 (.getfield 35) 45 := ⟨by decide +kernel, rfl⟩
theorem dX6_loseAll_45 : uD 1 cX6_loseAll 45 (.iconst 0) 46 := ⟨by decide +kernel, rfl⟩
theorem dX6_loseAll_46 : uD 3 cX6_loseAll 46 (.putfield 70) 49 := ⟨by decide +kernel, rfl⟩
theorem dX6_loseAll_49 : uD 1 cX6_loseAll 49 (.iload_n 1) 50 := ⟨by decide +kernel, rfl⟩
theorem dX6_loseAll_50 : uD 1 cX6_loseAll 50 (.ireturn) 51 := ⟨by decide +kernel, rfl⟩
theorem dX7_init_0 : uD 1 cX7_init 0 (.aload_n 0) 1 := ⟨by decide +kernel, rfl⟩
theorem dX7_init_1 : uD 3 cX7_init 1 (.invokespecial 1) 4 := ⟨by decide +kernel, rfl⟩
theorem dX7_init_4 : uD 1 cX7_init 4 (.aload_n 0) 5 := ⟨by decide +kernel, rfl⟩
theorem dX7_init_5 : uD 3 cX7_init 5 (.new 7) 8 := ⟨by decide +kernel, rfl⟩
theorem dX7_init_8 : uD 1 cX7_init 8 (.dup) 9 := ⟨by decide +kernel, rfl⟩
theorem dX7_init_9 : uD 3 cX7_init 9 (.invokespecial 9) 12 := ⟨by decide +kernel, rfl⟩
theorem dX7_init_12 : uD 3 cX7_init 12 (.putfield 10) 15 := ⟨by decide +kernel, rfl⟩
theorem dX7_init_15 : uD 1 cX7_init 15 (.aload_n 0) 16 := ⟨by decide +kernel, rfl⟩
theorem dX7_init_16 : uD 1 cX7_init 16 (.iconst 0) 17 := ⟨by decide +kernel, rfl⟩
theorem dX7_init_17 : uD 3 cX7_init 17 (.putfield 16) 20 := ⟨by decide +kernel, rfl⟩
theorem dX7_init_20 : uD 1 cX7_init 20 (.aload_n 0) 21 := ⟨by decide +kernel, rfl⟩
theorem dX7_init_21 : uD 1 cX7_init 21 (.iconst (-1)) 22 := ⟨by decide +kernel, rfl⟩
theorem dX7_init_22 : uD 3 cX7_init 22 (.putfield 20) 25 := ⟨by decide +kernel, rfl⟩
theorem dX7_init_25 : uD 1 cX7_init 25 (.aload_n 0) 26 := ⟨by decide +kernel, rfl⟩
theorem dX7_init_26 : uD 3 cX7_init 26 (.new 23) 29 := ⟨by decide +kernel, rfl⟩
theorem dX7_init_29 : uD 1 cX7_init 29 (.dup) 30 := ⟨by decide +kernel, rfl⟩
theorem dX7_init_30 : uD 3 cX7_init 30 (.invokespecial 25) 33 := ⟨by decide +kernel, rfl⟩
theorem dX7_init_33 : uD 3 cX7_init 33 (.putfield 26) 36 := ⟨by decide +kernel, rfl⟩
theorem dX7_init_36 : uD 1 cX7_init 36 (.aload_n 0) 37 := ⟨by decide +kernel, rfl⟩
theorem dX7_init_37 : uD 3 cX7_init 37 (.new 23) 40 := ⟨by decide +kernel, rfl⟩
theorem dX7_init_40 : uD 1 cX7_init 40 (.dup) 41 := ⟨by decide +kernel, rfl⟩
theorem dX7_init_41 : uD 3 cX7_init 41 (.invokespecial 25) 44 := ⟨by decide +kernel, rfl⟩
theorem dX7_init_44 : uD 3 cX7_init 44 (.putfield 30) 47 := ⟨by decide +kernel, rfl⟩
theorem dX7_init_47 : uD 1 cX7_init 47 (.aload_n 0) 48 := ⟨by decide +kernel, rfl⟩
theorem dX7_init_48 : uD 1 cX7_init 48 (.iconst 2) 49 := ⟨by decide +kernel, rfl⟩
theorem dX7_init_49 : uD 3 cX7_init 49 (.anewarray 23) 52 := ⟨by decide +kernel, rfl⟩
theorem dX7_init_52 : uD 3 cX7_init 52 (.putfield 33) 55 := ⟨by decide +kernel, rfl⟩
theorem dX7_init_55 : uD 1 cX7_init 55 (.aload_n 0) 56 := ⟨by decide +kernel, rfl⟩
theorem dX7_init_56 : uD 1 cX7_init 56 (.iconst 2) 57 := ⟨by decide +kernel, rfl⟩
theorem dX7_init_57 : uD 2 cX7_init 57 (.newarray .boolean) 59 := ⟨by decide +kernel, rfl⟩
theorem dX7_init_59 : uD 3 cX7_init 59 (.putfield 37) 62 := ⟨by decide +kernel, rfl⟩
theorem dX7_init_62 : uD 1 cX7_init 62 (.aload_n 0) 63 := ⟨by decide +kernel, rfl⟩
theorem dX7_init_63 : uD 3 cX7_init 63 (.new 41) 66 := ⟨by decide +kernel, rfl⟩
theorem dX7_init_66 : uD 1 cX7_init 66 (.dup) 67 := ⟨by decide +kernel, rfl⟩
theorem dX7_init_67 : uD 3 cX7_init 67 (.invokespecial 43) 70 := ⟨by decide +kernel, rfl⟩
theorem dX7_init_70 : uD 3 cX7_init 70 (.putfield 44) 73 := ⟨by decide +kernel, rfl⟩
theorem dX7_init_73 : uD 1 cX7_init 73 (.aload_n 0) 74 := ⟨by decide +kernel, rfl⟩
theorem dX7_init_74 : uD 3 cX7_init 74 (.new 48) 77 := ⟨by decide +kernel, rfl⟩
theorem dX7_init_77 : uD 1 cX7_init 77 (.dup) 78 := ⟨by decide +kernel, rfl⟩
theorem dX7_init_78 : uD 3 cX7_init 78 (.invokespecial 50) 81 := ⟨by decide +kernel, rfl⟩
theorem dX7_init_81 : uD 3 cX7_init 81 (.putfield 51) 84 := ⟨by decide +kernel, rfl⟩
theorem dX7_init_84 : uD 1 cX7_init 84 (.aload_n 0) 85 := ⟨by decide +kernel, rfl⟩
theorem dX7_init_85 : uD 3 cX7_init 85 (.new 55) 88 := ⟨by decide +kernel, rfl⟩
theorem dX7_init_88 : uD 1 cX7_init 88 (.dup) 89 := ⟨by decide +kernel, rfl⟩
theorem dX7_init_89 : uD 3 cX7_init 89 (.invokespecial 57) 92 := ⟨by decide +kernel, rfl⟩
theorem dX7_init_92 : uD 3 cX7_init 92 (.putfield 58) 95 := ⟨by decide +kernel, rfl⟩
theorem dX7_init_95 : uD 1 cX7_init 95 (.iconst 0) 96 := ⟨by decide +kernel, rfl⟩
theorem dX7_init_96 : uD 1 cX7_init 96 (.istore_n 1) 97 := ⟨by decide +kernel, rfl⟩
theorem dX7_init_97 : uD 1 cX7_init 97 (.iload_n 1) 98 := ⟨by decide +kernel, rfl⟩
theorem dX7_init_98 : uD 1 cX7_init 98 (.iconst 2) 99 := ⟨by decide +kernel, rfl⟩
theorem dX7_init_99 : uJ cX7_init 99 (fun o => .if_icmp .ge o) 121 102 := ⟨22, by decide +kernel, by decide, rfl⟩
theorem dX7_init_102 : uD 1 cX7_init 102 (.aload_n 0) 103 := ⟨by decide +kernel, rfl⟩
theorem dX7_init_103 : uD 3 cX7_init 103 (.getfield 33) 106 := ⟨by decide +kernel, rfl⟩
theorem dX7_init_106 : uD 1 cX7_init 106 (.iload_n 1) 107 := ⟨by decide +kernel, rfl⟩
theorem dX7_init_107 : uD 3 cX7_init 107 (.new 23) 110 := ⟨by decide +kernel, rfl⟩
theorem dX7_init_110 : uD 1 cX7_init 110 (.dup) 111 := ⟨by decide +kernel, rfl⟩
theorem dX7_init_111 : uD 3 cX7_init 111 (.invokespecial 25) 114 := ⟨by decide +kernel, rfl⟩
theorem dX7_init_114 : uD 1 cX7_init 114 (.aastore) 115 := ⟨by decide +kernel, rfl⟩
theorem dX7_init_115 : uD 3 cX7_init 115 (.iinc 1 1) 118 := ⟨by decide +kernel, rfl⟩
theorem dX7_init_118 : uJ cX7_init 118 (fun o => .goto o) 97 121 := ⟨(-21), by decide +kernel, by decide, rfl⟩
theorem dX7_init_121 : uD 1 cX7_init 121 (.aload_n 0) 122 := ⟨by decide +kernel, rfl⟩
theorem dX7_init_122 : uD 3 cX7_init 122 (.getfield 26) 125 := ⟨by decide +kernel, rfl⟩
theorem dX7_init_125 : uD 3 cX7_init 125 (.getfield 62) 128 := ⟨by decide +kernel, rfl⟩
theorem dX7_init_128 : uD 2 cX7_init 128 (.bipush 100) 130 := ⟨by decide +kernel, rfl⟩
theorem dX7_init_130 : uD 3 cX7_init 130 (.putfield 65) 133 := ⟨by decide +kernel, rfl⟩
theorem dX7_init_133 : uD 1 cX7_init 133 (.aload_n 0) 134 := ⟨by decide +kernel, rfl⟩
theorem dX7_init_134 : uD 3 cX7_init 134 (.getfield 26) 137 := ⟨by decide +kernel, rfl⟩
theorem dX7_init_137 : uD 3 cX7_init 137 (.getfield 62) 140 := ⟨by decide +kernel, rfl⟩
theorem dX7_init_140 : uD 2 cX7_init 140 (.bipush 100) 142 := ⟨by decide +kernel, rfl⟩
theorem dX7_init_142 : uD 3 cX7_init 142 (.putfield 68) 145 := ⟨by decide +kernel, rfl⟩
theorem dX7_init_145 : uD 1 cX7_init 145 (.aload_n 0) 146 := ⟨by decide +kernel, rfl⟩
theorem dX7_init_146 : uD 3 cX7_init 146 (.getfield 26) 149 := ⟨by decide +kernel, rfl⟩
theorem dX7_init_149 : uD 3 cX7_init 149 (.getfield 62) 152 := ⟨by decide +kernel, rfl⟩
theorem dX7_init_152 : uD 2 cX7_init 152 (.bipush 10) 154 := ⟨by decide +kernel, rfl⟩
theorem dX7_init_154 : uD 3 cX7_init 154 (.putfield 71) 157 := ⟨by decide +kernel, rfl⟩
theorem dX7_init_157 : uD 1 cX7_init 157 (.aload_n 0) 158 := ⟨by decide +kernel, rfl⟩
theorem dX7_init_158 : uD 3 cX7_init 158 (.getfield 26) 161 := ⟨by decide +kernel, rfl⟩
theorem dX7_init_161 : uD 3 cX7_init 161 (.getfield 62) 164 := ⟨by decide +kernel, rfl⟩
theorem dX7_init_164 : uD 1 cX7_init 164 (.iconst 1) 165 := ⟨by decide +kernel, rfl⟩
theorem dX7_init_165 : uD 3 cX7_init 165 (.putfield 74) 168 := ⟨by decide +kernel, rfl⟩
theorem dX7_init_168 : uD 1 cX7_init 168 (.aload_n 0) 169 := ⟨by decide +kernel, rfl⟩
theorem dX7_init_169 : uD 3 cX7_init 169 (.getfield 26) 172 := ⟨by decide +kernel, rfl⟩
theorem dX7_init_172 : uD 3 cX7_init 172 (.getfield 62) 175 := ⟨by decide +kernel, rfl⟩
theorem dX7_init_175 : uD 2 cX7_init 175 (.bipush 100) 177 := ⟨by decide +kernel, rfl⟩
theorem dX7_init_177 : uD 3 cX7_init 177 (.putfield 77) 180 := ⟨by decide +kernel, rfl⟩
theorem dX7_init_180 : uD 1 cX7_init 180 (.return_) 181 := ⟨by decide +kernel, rfl⟩
theorem dX7_append_0 : uD 1 cX7_append 0 (.aload_n 0) 1 := ⟨by decide +kernel, rfl⟩
theorem dX7_append_1 : uD 3 cX7_append 1 (.getfield 10) 4 := ⟨by decide +kernel, rfl⟩
theorem dX7_append_4 : uD 3 cX7_append 4 (.getfield 80) 7 := ⟨by decide +kernel, rfl⟩
theorem dX7_append_7 : uD 3 cX7_append 7 (.sipush 380) 10 := ⟨by decide +kernel, rfl⟩
theorem dX7_append_10 : uJ cX7_append 10 (fun o => .if_icmp .le o) 23 13 := ⟨13, by decide +kernel, by decide, rfl⟩
theorem dX7_append_13 : uD 3 cX7_append 13 (.new 83) 16 := ⟨by decide +kernel, rfl⟩
theorem dX7_append_16 : uD 1 cX7_append 16 (.dup) 17 := ⟨by decide +kernel, rfl⟩
theorem dX7_append_17 : uD 2 cX7_append 17 (.ldc 85) 19 := ⟨by decide +kernel, rfl⟩
theorem dX7_append_19 : uD 3 cX7_append 19 (.invokespecial 87) 22 := ⟨by decide +kernel, rfl⟩
theorem dX7_append_22 : uD 1 cX7_append 22 (.athrow) 23 := ⟨by decide +kernel, rfl⟩
theorem dX7_append_23 : uD 1 cX7_append 23 (.aload_n 0) 24 := ⟨by decide +kernel, rfl⟩
theorem dX7_append_24 : uD 3 cX7_append 24 (.getfield 10) 27 := ⟨by decide +kernel, rfl⟩
theorem dX7_append_27 : uD 1 cX7_append 27 (.iload_n 1) 28 := ⟨by decide +kernel, rfl⟩
theorem dX7_append_28 : uD 3 cX7_append 28 (.invokevirtual 90) 31 := ⟨by decide +kernel, rfl⟩
theorem dX7_append_31 : uD 1 cX7_append 31 (.aload_n 0) 32 := ⟨by decide +kernel, rfl⟩
theorem dX7_append_32 : uD 3 cX7_append 32 (.getfield 10) 35 := ⟨by decide +kernel, rfl⟩
theorem dX7_append_35 : uD 1 cX7_append 35 (.iload_n 2) 36 := ⟨by decide +kernel, rfl⟩
theorem dX7_append_36 : uD 3 cX7_append 36 (.invokevirtual 90) 39 := ⟨by decide +kernel, rfl⟩
theorem dX7_append_39 : uD 1 cX7_append 39 (.aload_n 0) 40 := ⟨by decide +kernel, rfl⟩
theorem dX7_append_40 : uD 3 cX7_append 40 (.getfield 10) 43 := ⟨by decide +kernel, rfl⟩
theorem dX7_append_43 : uD 1 cX7_append 43 (.iload_n 3) 44 := ⟨by decide +kernel, rfl⟩
theorem dX7_append_44 : uD 3 cX7_append 44 (.invokevirtual 90) 47 := ⟨by decide +kernel, rfl⟩
theorem dX7_append_47 : uD 1 cX7_append 47 (.aload_n 0) 48 := ⟨by decide +kernel, rfl⟩
theorem dX7_append_48 : uD 3 cX7_append 48 (.getfield 10) 51 := ⟨by decide +kernel, rfl⟩
theorem dX7_append_51 : uD 2 cX7_append 51 (.iload 4) 53 := ⟨by decide +kernel, rfl⟩
theorem dX7_append_53 : uD 3 cX7_append 53 (.invokevirtual 90) 56 := ⟨by decide +kernel, rfl⟩
theorem dX7_append_56 : uD 1 cX7_append 56 (.aload_n 0) 57 := ⟨by decide +kernel, rfl⟩
theorem dX7_append_57 : uD 3 cX7_append 57 (.getfield 10) 60 := ⟨by decide +kernel, rfl⟩
theorem dX7_append_60 : uD 2 cX7_append 60 (.iload 5) 62 := ⟨by decide +kernel, rfl⟩
theorem dX7_append_62 : uD 3 cX7_append 62 (.invokevirtual 90) 65 := ⟨by decide +kernel, rfl⟩
theorem dX7_append_65 : uD 1 cX7_append 65 (.aload_n 0) 66 := ⟨by decide +kernel, rfl⟩
theorem dX7_append_66 : uD 3 cX7_append 66 (.getfield 10) 69 := ⟨by decide +kernel, rfl⟩
theorem dX7_append_69 : uD 3 cX7_append 69 (.getfield 80) 72 := ⟨by decide +kernel, rfl⟩
theorem dX7_append_72 : uD 1 cX7_append 72 (.ireturn) 73 := ⟨by decide +kernel, rfl⟩
theorem dX7_truncate_0 : uD 1 cX7_truncate 0 (.iload_n 1) 1 := ⟨by decide +kernel, rfl⟩
theorem dX7_truncate_1 : uJ cX7_truncate 1 (fun o => .ifCond .lt o) 15 4 := ⟨14, by decide +kernel, by decide, rfl⟩
theorem dX7_truncate_4 : uD 1 cX7_truncate 4 (.iload_n 1) 5 := ⟨by decide +kernel, rfl⟩
theorem dX7_truncate_5 : uD 1 cX7_truncate 5 (.aload_n 0) 6 := ⟨by decide +kernel, rfl⟩
theorem dX7_truncate_6 : uD 3 cX7_truncate 6 (.getfield 10) 9 := ⟨by decide +kernel, rfl⟩
theorem dX7_truncate_9 : uD 3 cX7_truncate 9 (.getfield 80) 12 := ⟨by decide +kernel, rfl⟩
theorem dX7_truncate_12 : uJ cX7_truncate 12 (fun o => .if_icmp .le o) 25 15 := ⟨13, by decide +kernel, by decide, rfl⟩
theorem dX7_truncate_15 : uD 3 cX7_truncate 15 (.new 94) 18 := ⟨by decide +kernel, rfl⟩
theorem dX7_truncate_18 : uD 1 cX7_truncate 18 (.dup) 19 := ⟨by decide +kernel, rfl⟩
theorem dX7_truncate_19 : uD 2 cX7_truncate 19 (.ldc 96) 21 := ⟨by decide +kernel, rfl⟩
theorem dX7_truncate_21 : uD 3 cX7_truncate 21 (.invokespecial 98) 24 := ⟨by decide +kernel, rfl⟩
theorem dX7_truncate_24 : uD 1 cX7_truncate 24 (.athrow) 25 := ⟨by decide +kernel, rfl⟩
theorem dX7_truncate_25 : uD 1 cX7_truncate 25 (.aload_n 0) 26 := ⟨by decide +kernel, rfl⟩
theorem dX7_truncate_26 : uD 3 cX7_truncate 26 (.getfield 10) 29 := ⟨by decide +kernel, rfl⟩
theorem dX7_truncate_29 : uD 1 cX7_truncate 29 (.iload_n 1) 30 := ⟨by decide +kernel, rfl⟩
theorem dX7_truncate_30 : uD 3 cX7_truncate 30 (.putfield 80) 33 := ⟨by decide +kernel, rfl⟩
theorem dX7_truncate_33 : uD 1 cX7_truncate 33 (.iload_n 1) 34 := ⟨by decide +kernel, rfl⟩
theorem dX7_truncate_34 : uD 1 cX7_truncate 34 (.ireturn) 35 := ⟨by decide +kernel, rfl⟩
theorem dX7_load_0 : uD 1 cX7_load 0 (.aload_n 0) 1 := ⟨by decide +kernel, rfl⟩
theorem dX7_load_1 : uD 3 cX7_load 1 (.getfield 10) 4 := ⟨by decide +kernel, rfl⟩
theorem dX7_load_4 : uD 1 cX7_load 4 (.aload_n 0) 5 := ⟨by decide +kernel, rfl⟩
theorem dX7_load_5 : uD 3 cX7_load 5 (.getfield 30) 8 := ⟨by decide +kernel, rfl⟩
theorem dX7_load_8 : uD 3 cX7_load 8 (.invokevirtual 99) 11 := ⟨by decide +kernel, rfl⟩
theorem dX7_load_11 : uD 1 cX7_load 11 (.aload_n 0) 12 := ⟨by decide +kernel, rfl⟩
theorem dX7_load_12 : uD 3 cX7_load 12 (.getfield 10) 15 := ⟨by decide +kernel, rfl⟩
theorem dX7_load_15 : uD 1 cX7_load 15 (.iconst 0) 16 := ⟨by decide +kernel, rfl⟩
theorem dX7_load_16 : uD 3 cX7_load 16 (.putfield 80) 19 := ⟨by decide +kernel, rfl⟩
theorem dX7_load_19 : uD 1 cX7_load 19 (.aload_n 0) 20 := ⟨by decide +kernel, rfl⟩
theorem dX7_load_20 : uD 1 cX7_load 20 (.aload_n 0) 21 := ⟨by decide +kernel, rfl⟩
theorem dX7_load_21 : uD 3 cX7_load 21 (.getfield 10) 24 := ⟨by decide +kernel, rfl⟩
theorem dX7_load_24 : uD 3 cX7_load 24 (.getfield 103) 27 := ⟨by decide +kernel, rfl⟩
theorem dX7_load_27 : uD 3 cX7_load 27 (.putfield 16) 30 := ⟨by decide +kernel, rfl⟩
theorem dX7_load_30 : uD 1 cX7_load 30 (.aload_n 0) 31 := ⟨by decide +kernel, rfl⟩
theorem dX7_load_31 : uD 1 cX7_load 31 (.aload_n 0) 32 := ⟨by decide +kernel, rfl⟩
theorem dX7_load_32 : uD 3 cX7_load 32 (.getfield 10) 35 := ⟨by decide +kernel, rfl⟩
theorem dX7_load_35 : uD 3 cX7_load 35 (.getfield 106) 38 := ⟨by decide +kernel, rfl⟩
theorem dX7_load_38 : uD 3 cX7_load 38 (.putfield 20) 41 := ⟨by decide +kernel, rfl⟩
theorem dX7_load_41 : uD 1 cX7_load 41 (.aload_n 0) 42 := ⟨by decide +kernel, rfl⟩
theorem dX7_load_42 : uD 3 cX7_load 42 (.getfield 16) 45 := ⟨by decide +kernel, rfl⟩
theorem dX7_load_45 : uJ cX7_load 45 (fun o => .ifCond .eq o) 58 48 := ⟨13, by decide +kernel, by decide, rfl⟩
theorem dX7_load_48 : uD 3 cX7_load 48 (.new 109) 51 := ⟨by decide +kernel, rfl⟩
theorem dX7_load_51 : uD 1 cX7_load 51 (.dup) 52 := ⟨by decide +kernel, rfl⟩
theorem dX7_load_52 : uD 2 cX7_load 52 (.ldc 111) 54 := ⟨by decide +kernel, rfl⟩
theorem dX7_load_54 : uD 3 cX7_load 54 (.invokespecial 113) 57 := ⟨by decide +kernel, rfl⟩
theorem dX7_load_57 : uD 1 cX7_load 57 (.athrow) 58 := ⟨by decide +kernel, rfl⟩
theorem dX7_load_58 : uD 1 cX7_load 58 (.aload_n 0) 59 := ⟨by decide +kernel, rfl⟩
theorem dX7_load_59 : uD 3 cX7_load 59 (.getfield 26) 62 := ⟨by decide +kernel, rfl⟩
theorem dX7_load_62 : uD 1 cX7_load 62 (.aload_n 0) 63 := ⟨by decide +kernel, rfl⟩
theorem dX7_load_63 : uD 3 cX7_load 63 (.getfield 30) 66 := ⟨by decide +kernel, rfl⟩
theorem dX7_load_66 : uD 3 cX7_load 66 (.invokevirtual 114) 69 := ⟨by decide +kernel, rfl⟩
theorem dX7_load_69 : uD 1 cX7_load 69 (.iconst 0) 70 := ⟨by decide +kernel, rfl⟩
theorem dX7_load_70 : uD 1 cX7_load 70 (.istore_n 1) 71 := ⟨by decide +kernel, rfl⟩
theorem dX7_load_71 : uD 1 cX7_load 71 (.iload_n 1) 72 := ⟨by decide +kernel, rfl⟩
theorem dX7_load_72 : uD 1 cX7_load 72 (.iconst 2) 73 := ⟨by decide +kernel, rfl⟩
theorem dX7_load_73 : uJ cX7_load 73 (fun o => .if_icmp .ge o) 89 76 := ⟨16, by decide +kernel, by decide, rfl⟩
theorem dX7_load_76 : uD 1 cX7_load 76 (.aload_n 0) 77 := ⟨by decide +kernel, rfl⟩
theorem dX7_load_77 : uD 3 cX7_load 77 (.getfield 37) 80 := ⟨by decide +kernel, rfl⟩
theorem dX7_load_80 : uD 1 cX7_load 80 (.iload_n 1) 81 := ⟨by decide +kernel, rfl⟩
theorem dX7_load_81 : uD 1 cX7_load 81 (.iconst 0) 82 := ⟨by decide +kernel, rfl⟩
theorem dX7_load_82 : uD 1 cX7_load 82 (.bastore) 83 := ⟨by decide +kernel, rfl⟩
theorem dX7_load_83 : uD 3 cX7_load 83 (.iinc 1 1) 86 := ⟨by decide +kernel, rfl⟩
theorem dX7_load_86 : uJ cX7_load 86 (fun o => .goto o) 71 89 := ⟨(-15), by decide +kernel, by decide, rfl⟩
theorem dX7_load_89 : uD 1 cX7_load 89 (.aload_n 0) 90 := ⟨by decide +kernel, rfl⟩
theorem dX7_load_90 : uD 3 cX7_load 90 (.getfield 26) 93 := ⟨by decide +kernel, rfl⟩
theorem dX7_load_93 : uD 3 cX7_load 93 (.getfield 117) 96 := ⟨by decide +kernel, rfl⟩
theorem dX7_load_96 : uD 3 cX7_load 96 (.getfield 121) 99 := ⟨by decide +kernel, rfl⟩
theorem dX7_load_99 : uD 1 cX7_load 99 (.ireturn) 100 := ⟨by decide +kernel, rfl⟩
theorem dX7_errorCode_0 : uD 1 cX7_errorCode 0 (.aload_n 0) 1 := ⟨by decide +kernel, rfl⟩
theorem dX7_errorCode_1 : uD 3 cX7_errorCode 1 (.getfield 16) 4 := ⟨by decide +kernel, rfl⟩
theorem dX7_errorCode_4 : uD 1 cX7_errorCode 4 (.ireturn) 5 := ⟨by decide +kernel, rfl⟩
theorem dX7_errorPosition_0 : uD 1 cX7_errorPosition 0 (.aload_n 0) 1 := ⟨by decide +kernel, rfl⟩
theorem dX7_errorPosition_1 : uD 3 cX7_errorPosition 1 (.getfield 20) 4 := ⟨by decide +kernel, rfl⟩
theorem dX7_errorPosition_4 : uD 1 cX7_errorPosition 4 (.ireturn) 5 := ⟨by decide +kernel, rfl⟩
theorem dX7_report_0 : uD 1 cX7_report 0 (.iload_n 1) 1 := ⟨by decide +kernel, rfl⟩
theorem dX7_report_1 : uD 51 cX7_report 1 (.tableswitch 152 0 8 #[51, 62, 73, 81, 97, 108, 119, 130, 141]) 52 := ⟨by decide +kernel, rfl⟩
theorem dX7_report_52 : uD 1 cX7_report 52 (.aload_n 0) 53 := ⟨by decide +kernel, rfl⟩
theorem dX7_report_53 : uD 3 cX7_report 53 (.getfield 26) 56 := ⟨by decide +kernel, rfl⟩
theorem dX7_report_56 : uD 3 cX7_report 56 (.getfield 62) 59 := ⟨by decide +kernel, rfl⟩
theorem dX7_report_59 : uD 3 cX7_report 59 (.getfield 65) 62 := ⟨by decide +kernel, rfl⟩
theorem dX7_report_62 : uD 1 cX7_report 62 (.ireturn) 63 := ⟨by decide +kernel, rfl⟩
theorem dX7_report_63 : uD 1 cX7_report 63 (.aload_n 0) 64 := ⟨by decide +kernel, rfl⟩
theorem dX7_report_64 : uD 3 cX7_report 64 (.getfield 26) 67 := ⟨by decide +kernel, rfl⟩
theorem dX7_report_67 : uD 3 cX7_report 67 (.getfield 62) 70 := ⟨by decide +kernel, rfl⟩
theorem dX7_report_70 : uD 3 cX7_report 70 (.getfield 68) 73 := ⟨by decide +kernel, rfl⟩
theorem dX7_report_73 : uD 1 cX7_report 73 (.ireturn) 74 := ⟨by decide +kernel, rfl⟩
theorem dX7_report_74 : uD 1 cX7_report 74 (.aload_n 0) 75 := ⟨by decide +kernel, rfl⟩
theorem dX7_report_75 : uD 3 cX7_report 75 (.getfield 26) 78 := ⟨by decide +kernel, rfl⟩
theorem dX7_report_78 : uD 3 cX7_report 78 (.getfield 126) 81 := ⟨by decide +kernel, rfl⟩
theorem dX7_report_81 : uD 1 cX7_report 81 (.ireturn) 82 := ⟨by decide +kernel, rfl⟩
theorem dX7_report_82 : uD 1 cX7_report 82 (.aload_n 0) 83 := ⟨by decide +kernel, rfl⟩
theorem dX7_report_83 : uD 3 cX7_report 83 (.getfield 26) 86 := ⟨by decide +kernel, rfl⟩
theorem dX7_report_86 : uD 3 cX7_report 86 (.getfield 129) 89 := ⟨by decide +kernel, rfl⟩
theorem dX7_report_89 : uJ cX7_report 89 (fun o => .ifCond .eq o) 96 92 := ⟨7, by decide +kernel, by decide, rfl⟩
theorem dX7_report_92 : uD 1 cX7_report 92 (.iconst 1) 93 := ⟨by decide +kernel, rfl⟩
theorem dX7_report_93 : uJ cX7_report 93 (fun o => .goto o) 97 96 := ⟨4, by decide +kernel, by decide, rfl⟩
theorem dX7_report_96 : uD 1 cX7_report 96 (.iconst 0) 97 := ⟨by decide +kernel, rfl⟩
theorem dX7_report_97 : uD 1 cX7_report 97 (.ireturn) 98 := ⟨by decide +kernel, rfl⟩
theorem dX7_report_98 : uD 1 cX7_report 98 (.aload_n 0) 99 := ⟨by decide +kernel, rfl⟩
theorem dX7_report_99 : uD 3 cX7_report 99 (.getfield 26) 102 := ⟨by decide +kernel, rfl⟩
theorem dX7_report_102 : uD 3 cX7_report 102 (.getfield 133) 105 := ⟨by decide +kernel, rfl⟩
theorem dX7_report_105 : uD 3 cX7_report 105 (.getfield 136) 108 := ⟨by decide +kernel, rfl⟩
theorem dX7_report_108 : uD 1 cX7_report 108 (.ireturn) 109 := ⟨by decide +kernel, rfl⟩
theorem dX7_report_109 : uD 1 cX7_report 109 (.aload_n 0) 110 := ⟨by decide +kernel, rfl⟩
theorem dX7_report_110 : uD 3 cX7_report 110 (.getfield 26) 113 := ⟨by decide +kernel, rfl⟩
theorem dX7_report_113 : uD 3 cX7_report 113 (.getfield 117) 116 := ⟨by decide +kernel, rfl⟩
theorem dX7_report_116 : uD 3 cX7_report 116 (.getfield 121) 119 := ⟨by decide +kernel, rfl⟩
theorem dX7_report_119 : uD 1 cX7_report 119 (.ireturn) 120 := ⟨by decide +kernel, rfl⟩
theorem dX7_report_120 : uD 1 cX7_report 120 (.aload_n 0) 121 := ⟨by decide +kernel, rfl⟩
theorem dX7_report_121 : uD 3 cX7_report 121 (.getfield 26) 124 := ⟨by decide +kernel, rfl⟩
theorem dX7_report_124 : uD 3 cX7_report 124 (.getfield 137) 127 := ⟨by decide +kernel, rfl⟩
theorem dX7_report_127 : uD 3 cX7_report 127 (.getfield 141) 130 := ⟨by decide +kernel, rfl⟩
theorem dX7_report_130 : uD 1 cX7_report 130 (.ireturn) 131 := ⟨by decide +kernel, rfl⟩
theorem dX7_report_131 : uD 1 cX7_report 131 (.aload_n 0) 132 := ⟨by decide +kernel, rfl⟩
theorem dX7_report_132 : uD 3 cX7_report 132 (.getfield 26) 135 := ⟨by decide +kernel, rfl⟩
theorem dX7_report_135 : uD 3 cX7_report 135 (.getfield 137) 138 := ⟨by decide +kernel, rfl⟩
theorem dX7_report_138 : uD 3 cX7_report 138 (.getfield 146) 141 := ⟨by decide +kernel, rfl⟩
theorem dX7_report_141 : uD 1 cX7_report 141 (.ireturn) 142 := ⟨by decide +kernel, rfl⟩
theorem dX7_report_142 : uD 1 cX7_report 142 (.aload_n 0) 143 := ⟨by decide +kernel, rfl⟩
theorem dX7_report_143 : uD 3 cX7_report 143 (.getfield 26) 146 := ⟨by decide +kernel, rfl⟩
theorem dX7_report_146 : uD 3 cX7_report 146 (.getfield 62) 149 := ⟨by decide +kernel, rfl⟩
theorem dX7_report_149 : uD 3 cX7_report 149 (.getfield 149) 152 := ⟨by decide +kernel, rfl⟩
theorem dX7_report_152 : uD 1 cX7_report 152 (.ireturn) 153 := ⟨by decide +kernel, rfl⟩
theorem dX7_report_153 : uD 3 cX7_report 153 (.new 109) 156 := ⟨by decide +kernel, rfl⟩
theorem dX7_report_156 : uD 1 cX7_report 156 (.dup) 157 := ⟨by decide +kernel, rfl⟩
theorem dX7_report_157 : uD 2 cX7_report 157 (.ldc 152) 159 := ⟨by decide +kernel, rfl⟩
theorem dX7_report_159 : uD 3 cX7_report 159 (.invokespecial 113) 162 := ⟨by decide +kernel, rfl⟩
theorem dX7_report_162 : uD 1 cX7_report 162 (.athrow) 163 := ⟨by decide +kernel, rfl⟩
theorem dX7_device_0 : uD 1 cX7_device 0 (.aload_n 0) 1 := ⟨by decide +kernel, rfl⟩
theorem dX7_device_1 : uD 1 cX7_device 1 (.iload_n 1) 2 := ⟨by decide +kernel, rfl⟩
theorem dX7_device_2 : uD 3 cX7_device 2 (.invokevirtual 154) 5 := ⟨by decide +kernel, rfl⟩
theorem dX7_device_5 : uD 1 cX7_device 5 (.aload_n 0) 6 := ⟨by decide +kernel, rfl⟩
theorem dX7_device_6 : uD 3 cX7_device 6 (.getfield 26) 9 := ⟨by decide +kernel, rfl⟩
theorem dX7_device_9 : uD 3 cX7_device 9 (.getfield 133) 12 := ⟨by decide +kernel, rfl⟩
theorem dX7_device_12 : uD 1 cX7_device 12 (.iload_n 1) 13 := ⟨by decide +kernel, rfl⟩
theorem dX7_device_13 : uD 3 cX7_device 13 (.invokevirtual 157) 16 := ⟨by decide +kernel, rfl⟩
theorem dX7_device_16 : uD 1 cX7_device 16 (.istore_n 3) 17 := ⟨by decide +kernel, rfl⟩
theorem dX7_device_17 : uD 1 cX7_device 17 (.iload_n 2) 18 := ⟨by decide +kernel, rfl⟩
theorem dX7_device_18 : uD 42 cX7_device 18 (.tableswitch 138 0 6 #[42, 55, 68, 81, 102, 107, 119]) 60 := ⟨by decide +kernel, rfl⟩
theorem dX7_device_60 : uD 1 cX7_device 60 (.aload_n 0) 61 := ⟨by decide +kernel, rfl⟩
theorem dX7_device_61 : uD 3 cX7_device 61 (.getfield 26) 64 := ⟨by decide +kernel, rfl⟩
theorem dX7_device_64 : uD 3 cX7_device 64 (.getfield 117) 67 := ⟨by decide +kernel, rfl⟩
theorem dX7_device_67 : uD 3 cX7_device 67 (.getfield 161) 70 := ⟨by decide +kernel, rfl⟩
theorem dX7_device_70 : uD 1 cX7_device 70 (.iload_n 1) 71 := ⟨by decide +kernel, rfl⟩
theorem dX7_device_71 : uD 1 cX7_device 71 (.iaload) 72 := ⟨by decide +kernel, rfl⟩
theorem dX7_device_72 : uD 1 cX7_device 72 (.ireturn) 73 := ⟨by decide +kernel, rfl⟩
theorem dX7_device_73 : uD 1 cX7_device 73 (.aload_n 0) 74 := ⟨by decide +kernel, rfl⟩
theorem dX7_device_74 : uD 3 cX7_device 74 (.getfield 26) 77 := ⟨by decide +kernel, rfl⟩
theorem dX7_device_77 : uD 3 cX7_device 77 (.getfield 117) 80 := ⟨by decide +kernel, rfl⟩
theorem dX7_device_80 : uD 3 cX7_device 80 (.getfield 165) 83 := ⟨by decide +kernel, rfl⟩
theorem dX7_device_83 : uD 1 cX7_device 83 (.iload_n 1) 84 := ⟨by decide +kernel, rfl⟩
theorem dX7_device_84 : uD 1 cX7_device 84 (.iaload) 85 := ⟨by decide +kernel, rfl⟩
theorem dX7_device_85 : uD 1 cX7_device 85 (.ireturn) 86 := ⟨by decide +kernel, rfl⟩
theorem dX7_device_86 : uD 1 cX7_device 86 (.aload_n 0) 87 := ⟨by decide +kernel, rfl⟩
theorem dX7_device_87 : uD 3 cX7_device 87 (.getfield 26) 90 := ⟨by decide +kernel, rfl⟩
theorem dX7_device_90 : uD 3 cX7_device 90 (.getfield 117) 93 := ⟨by decide +kernel, rfl⟩
theorem dX7_device_93 : uD 3 cX7_device 93 (.getfield 168) 96 := ⟨by decide +kernel, rfl⟩
theorem dX7_device_96 : uD 1 cX7_device 96 (.iload_n 1) 97 := ⟨by decide +kernel, rfl⟩
theorem dX7_device_97 : uD 1 cX7_device 97 (.iaload) 98 := ⟨by decide +kernel, rfl⟩
theorem dX7_device_98 : uD 1 cX7_device 98 (.ireturn) 99 := ⟨by decide +kernel, rfl⟩
theorem dX7_device_99 : uD 1 cX7_device 99 (.aload_n 0) 100 := ⟨by decide +kernel, rfl⟩
theorem dX7_device_100 : uD 3 cX7_device 100 (.getfield 26) 103 := ⟨by decide +kernel, rfl⟩
theorem dX7_device_103 : uD 3 cX7_device 103 (.getfield 117) 106 := ⟨by decide +kernel, rfl⟩
theorem dX7_device_106 : uD 3 cX7_device 106 (.getfield 171) 109 := ⟨by decide +kernel, rfl⟩
theorem dX7_device_109 : uD 1 cX7_device 109 (.iload_n 1) 110 := ⟨by decide +kernel, rfl⟩
theorem dX7_device_110 : uD 1 cX7_device 110 (.baload) 111 := ⟨by decide +kernel, rfl⟩
theorem dX7_device_111 : uJ cX7_device 111 (fun o => .ifCond .eq o) 118 114 := ⟨7, by decide +kernel, by decide, rfl⟩
theorem dX7_device_114 : uD 1 cX7_device 114 (.iconst 1) 115 := ⟨by decide +kernel, rfl⟩
theorem dX7_device_115 : uJ cX7_device 115 (fun o => .goto o) 119 118 := ⟨4, by decide +kernel, by decide, rfl⟩
theorem dX7_device_118 : uD 1 cX7_device 118 (.iconst 0) 119 := ⟨by decide +kernel, rfl⟩
theorem dX7_device_119 : uD 1 cX7_device 119 (.ireturn) 120 := ⟨by decide +kernel, rfl⟩
theorem dX7_device_120 : uD 1 cX7_device 120 (.iload_n 3) 121 := ⟨by decide +kernel, rfl⟩
theorem dX7_device_121 : uD 3 cX7_device 121 (.invokestatic 174) 124 := ⟨by decide +kernel, rfl⟩
theorem dX7_device_124 : uD 1 cX7_device 124 (.ireturn) 125 := ⟨by decide +kernel, rfl⟩
theorem dX7_device_125 : uD 1 cX7_device 125 (.aload_n 0) 126 := ⟨by decide +kernel, rfl⟩
theorem dX7_device_126 : uD 3 cX7_device 126 (.getfield 26) 129 := ⟨by decide +kernel, rfl⟩
theorem dX7_device_129 : uD 3 cX7_device 129 (.getfield 133) 132 := ⟨by decide +kernel, rfl⟩
theorem dX7_device_132 : uD 1 cX7_device 132 (.iload_n 3) 133 := ⟨by decide +kernel, rfl⟩
theorem dX7_device_133 : uD 3 cX7_device 133 (.invokevirtual 179) 136 := ⟨by decide +kernel, rfl⟩
theorem dX7_device_136 : uD 1 cX7_device 136 (.ireturn) 137 := ⟨by decide +kernel, rfl⟩
theorem dX7_device_137 : uD 1 cX7_device 137 (.aload_n 0) 138 := ⟨by decide +kernel, rfl⟩
theorem dX7_device_138 : uD 3 cX7_device 138 (.getfield 26) 141 := ⟨by decide +kernel, rfl⟩
theorem dX7_device_141 : uD 3 cX7_device 141 (.getfield 117) 144 := ⟨by decide +kernel, rfl⟩
theorem dX7_device_144 : uD 1 cX7_device 144 (.aload_n 0) 145 := ⟨by decide +kernel, rfl⟩
theorem dX7_device_145 : uD 3 cX7_device 145 (.getfield 26) 148 := ⟨by decide +kernel, rfl⟩
theorem dX7_device_148 : uD 3 cX7_device 148 (.getfield 133) 151 := ⟨by decide +kernel, rfl⟩
theorem dX7_device_151 : uD 1 cX7_device 151 (.iload_n 3) 152 := ⟨by decide +kernel, rfl⟩
theorem dX7_device_152 : uD 3 cX7_device 152 (.invokevirtual 182) 155 := ⟨by decide +kernel, rfl⟩
theorem dX7_device_155 : uD 1 cX7_device 155 (.ireturn) 156 := ⟨by decide +kernel, rfl⟩
theorem dX7_device_156 : uD 3 cX7_device 156 (.new 109) 159 := ⟨by decide +kernel, rfl⟩
theorem dX7_device_159 : uD 1 cX7_device 159 (.dup) 160 := ⟨by decide +kernel, rfl⟩
theorem dX7_device_160 : uD 2 cX7_device 160 (.ldc 152) 162 := ⟨by decide +kernel, rfl⟩
theorem dX7_device_162 : uD 3 cX7_device 162 (.invokespecial 113) 165 := ⟨by decide +kernel, rfl⟩
theorem dX7_device_165 : uD 1 cX7_device 165 (.athrow) 166 := ⟨by decide +kernel, rfl⟩
theorem dX7_block_0 : uD 1 cX7_block 0 (.aload_n 0) 1 := ⟨by decide +kernel, rfl⟩
theorem dX7_block_1 : uD 1 cX7_block 1 (.iload_n 1) 2 := ⟨by decide +kernel, rfl⟩
theorem dX7_block_2 : uD 3 cX7_block 2 (.invokevirtual 186) 5 := ⟨by decide +kernel, rfl⟩
theorem dX7_block_5 : uD 1 cX7_block 5 (.iload_n 2) 6 := ⟨by decide +kernel, rfl⟩
theorem dX7_block_6 : uD 30 cX7_block 6 (.tableswitch 90 0 3 #[30, 43, 56, 69]) 36 := ⟨by decide +kernel, rfl⟩
theorem dX7_block_36 : uD 1 cX7_block 36 (.aload_n 0) 37 := ⟨by decide +kernel, rfl⟩
theorem dX7_block_37 : uD 3 cX7_block 37 (.getfield 26) 40 := ⟨by decide +kernel, rfl⟩
theorem dX7_block_40 : uD 3 cX7_block 40 (.getfield 133) 43 := ⟨by decide +kernel, rfl⟩
theorem dX7_block_43 : uD 3 cX7_block 43 (.getfield 189) 46 := ⟨by decide +kernel, rfl⟩
theorem dX7_block_46 : uD 1 cX7_block 46 (.iload_n 1) 47 := ⟨by decide +kernel, rfl⟩
theorem dX7_block_47 : uD 1 cX7_block 47 (.iaload) 48 := ⟨by decide +kernel, rfl⟩
theorem dX7_block_48 : uD 1 cX7_block 48 (.ireturn) 49 := ⟨by decide +kernel, rfl⟩
theorem dX7_block_49 : uD 1 cX7_block 49 (.aload_n 0) 50 := ⟨by decide +kernel, rfl⟩
theorem dX7_block_50 : uD 3 cX7_block 50 (.getfield 26) 53 := ⟨by decide +kernel, rfl⟩
theorem dX7_block_53 : uD 3 cX7_block 53 (.getfield 133) 56 := ⟨by decide +kernel, rfl⟩
theorem dX7_block_56 : uD 3 cX7_block 56 (.getfield 192) 59 := ⟨by decide +kernel, rfl⟩
theorem dX7_block_59 : uD 1 cX7_block 59 (.iload_n 1) 60 := ⟨by decide +kernel, rfl⟩
theorem dX7_block_60 : uD 1 cX7_block 60 (.iaload) 61 := ⟨by decide +kernel, rfl⟩
theorem dX7_block_61 : uD 1 cX7_block 61 (.ireturn) 62 := ⟨by decide +kernel, rfl⟩
theorem dX7_block_62 : uD 1 cX7_block 62 (.aload_n 0) 63 := ⟨by decide +kernel, rfl⟩
theorem dX7_block_63 : uD 3 cX7_block 63 (.getfield 26) 66 := ⟨by decide +kernel, rfl⟩
theorem dX7_block_66 : uD 3 cX7_block 66 (.getfield 133) 69 := ⟨by decide +kernel, rfl⟩
theorem dX7_block_69 : uD 3 cX7_block 69 (.getfield 195) 72 := ⟨by decide +kernel, rfl⟩
theorem dX7_block_72 : uD 1 cX7_block 72 (.iload_n 1) 73 := ⟨by decide +kernel, rfl⟩
theorem dX7_block_73 : uD 1 cX7_block 73 (.iaload) 74 := ⟨by decide +kernel, rfl⟩
theorem dX7_block_74 : uD 1 cX7_block 74 (.ireturn) 75 := ⟨by decide +kernel, rfl⟩
theorem dX7_block_75 : uD 1 cX7_block 75 (.aload_n 0) 76 := ⟨by decide +kernel, rfl⟩
theorem dX7_block_76 : uD 3 cX7_block 76 (.getfield 26) 79 := ⟨by decide +kernel, rfl⟩
theorem dX7_block_79 : uD 3 cX7_block 79 (.getfield 126) 82 := ⟨by decide +kernel, rfl⟩
theorem dX7_block_82 : uD 1 cX7_block 82 (.aload_n 0) 83 := ⟨by decide +kernel, rfl⟩
theorem dX7_block_83 : uD 3 cX7_block 83 (.getfield 26) 86 := ⟨by decide +kernel, rfl⟩
theorem dX7_block_86 : uD 3 cX7_block 86 (.getfield 133) 89 := ⟨by decide +kernel, rfl⟩
theorem dX7_block_89 : uD 3 cX7_block 89 (.getfield 198) 92 := ⟨by decide +kernel, rfl⟩
theorem dX7_block_92 : uD 1 cX7_block 92 (.iload_n 1) 93 := ⟨by decide +kernel, rfl⟩
theorem dX7_block_93 : uD 1 cX7_block 93 (.iaload) 94 := ⟨by decide +kernel, rfl⟩
theorem dX7_block_94 : uD 1 cX7_block 94 (.isub) 95 := ⟨by decide +kernel, rfl⟩
theorem dX7_block_95 : uD 1 cX7_block 95 (.ireturn) 96 := ⟨by decide +kernel, rfl⟩
theorem dX7_block_96 : uD 3 cX7_block 96 (.new 109) 99 := ⟨by decide +kernel, rfl⟩
theorem dX7_block_99 : uD 1 cX7_block 99 (.dup) 100 := ⟨by decide +kernel, rfl⟩
theorem dX7_block_100 : uD 2 cX7_block 100 (.ldc 152) 102 := ⟨by decide +kernel, rfl⟩
theorem dX7_block_102 : uD 3 cX7_block 102 (.invokespecial 113) 105 := ⟨by decide +kernel, rfl⟩
theorem dX7_block_105 : uD 1 cX7_block 105 (.athrow) 106 := ⟨by decide +kernel, rfl⟩
theorem dX7_find_0 : uD 1 cX7_find 0 (.aload_n 0) 1 := ⟨by decide +kernel, rfl⟩
theorem dX7_find_1 : uD 1 cX7_find 1 (.iload_n 1) 2 := ⟨by decide +kernel, rfl⟩
theorem dX7_find_2 : uD 3 cX7_find 2 (.invokevirtual 154) 5 := ⟨by decide +kernel, rfl⟩
theorem dX7_find_5 : uD 1 cX7_find 5 (.aload_n 0) 6 := ⟨by decide +kernel, rfl⟩
theorem dX7_find_6 : uD 1 cX7_find 6 (.iload_n 2) 7 := ⟨by decide +kernel, rfl⟩
theorem dX7_find_7 : uD 3 cX7_find 7 (.invokevirtual 201) 10 := ⟨by decide +kernel, rfl⟩
theorem dX7_find_10 : uD 1 cX7_find 10 (.aload_n 0) 11 := ⟨by decide +kernel, rfl⟩
theorem dX7_find_11 : uD 3 cX7_find 11 (.getfield 26) 14 := ⟨by decide +kernel, rfl⟩
theorem dX7_find_14 : uD 3 cX7_find 14 (.getfield 133) 17 := ⟨by decide +kernel, rfl⟩
theorem dX7_find_17 : uD 1 cX7_find 17 (.iload_n 1) 18 := ⟨by decide +kernel, rfl⟩
theorem dX7_find_18 : uD 1 cX7_find 18 (.iload_n 2) 19 := ⟨by decide +kernel, rfl⟩
theorem dX7_find_19 : uD 3 cX7_find 19 (.invokevirtual 204) 22 := ⟨by decide +kernel, rfl⟩
theorem dX7_find_22 : uD 1 cX7_find 22 (.istore_n 3) 23 := ⟨by decide +kernel, rfl⟩
theorem dX7_find_23 : uD 1 cX7_find 23 (.iload_n 3) 24 := ⟨by decide +kernel, rfl⟩
theorem dX7_find_24 : uD 1 cX7_find 24 (.iconst (-1)) 25 := ⟨by decide +kernel, rfl⟩
theorem dX7_find_25 : uJ cX7_find 25 (fun o => .if_icmp .ne o) 38 28 := ⟨13, by decide +kernel, by decide, rfl⟩
theorem dX7_find_28 : uD 3 cX7_find 28 (.new 208) 31 := ⟨by decide +kernel, rfl⟩
theorem dX7_find_31 : uD 1 cX7_find 31 (.dup) 32 := ⟨by decide +kernel, rfl⟩
theorem dX7_find_32 : uD 2 cX7_find 32 (.ldc 210) 34 := ⟨by decide +kernel, rfl⟩
theorem dX7_find_34 : uD 3 cX7_find 34 (.invokespecial 212) 37 := ⟨by decide +kernel, rfl⟩
theorem dX7_find_37 : uD 1 cX7_find 37 (.athrow) 38 := ⟨by decide +kernel, rfl⟩
theorem dX7_find_38 : uD 1 cX7_find 38 (.iload_n 3) 39 := ⟨by decide +kernel, rfl⟩
theorem dX7_find_39 : uD 1 cX7_find 39 (.ireturn) 40 := ⟨by decide +kernel, rfl⟩
theorem dX7_oldest_0 : uD 1 cX7_oldest 0 (.aload_n 0) 1 := ⟨by decide +kernel, rfl⟩
theorem dX7_oldest_1 : uD 3 cX7_oldest 1 (.getfield 26) 4 := ⟨by decide +kernel, rfl⟩
theorem dX7_oldest_4 : uD 3 cX7_oldest 4 (.getfield 133) 7 := ⟨by decide +kernel, rfl⟩
theorem dX7_oldest_7 : uD 3 cX7_oldest 7 (.getfield 136) 10 := ⟨by decide +kernel, rfl⟩
theorem dX7_oldest_10 : uJ cX7_oldest 10 (fun o => .ifCond .ne o) 23 13 := ⟨13, by decide +kernel, by decide, rfl⟩
theorem dX7_oldest_13 : uD 3 cX7_oldest 13 (.new 208) 16 := ⟨by decide +kernel, rfl⟩
theorem dX7_oldest_16 : uD 1 cX7_oldest 16 (.dup) 17 := ⟨by decide +kernel, rfl⟩
theorem dX7_oldest_17 : uD 2 cX7_oldest 17 (.ldc 213) 19 := ⟨by decide +kernel, rfl⟩
theorem dX7_oldest_19 : uD 3 cX7_oldest 19 (.invokespecial 212) 22 := ⟨by decide +kernel, rfl⟩
theorem dX7_oldest_22 : uD 1 cX7_oldest 22 (.athrow) 23 := ⟨by decide +kernel, rfl⟩
theorem dX7_oldest_23 : uD 1 cX7_oldest 23 (.iconst 0) 24 := ⟨by decide +kernel, rfl⟩
theorem dX7_oldest_24 : uD 1 cX7_oldest 24 (.istore_n 1) 25 := ⟨by decide +kernel, rfl⟩
theorem dX7_oldest_25 : uD 1 cX7_oldest 25 (.iconst 1) 26 := ⟨by decide +kernel, rfl⟩
theorem dX7_oldest_26 : uD 1 cX7_oldest 26 (.istore_n 2) 27 := ⟨by decide +kernel, rfl⟩
theorem dX7_oldest_27 : uD 1 cX7_oldest 27 (.iload_n 2) 28 := ⟨by decide +kernel, rfl⟩
theorem dX7_oldest_28 : uD 1 cX7_oldest 28 (.aload_n 0) 29 := ⟨by decide +kernel, rfl⟩
theorem dX7_oldest_29 : uD 3 cX7_oldest 29 (.getfield 26) 32 := ⟨by decide +kernel, rfl⟩
theorem dX7_oldest_32 : uD 3 cX7_oldest 32 (.getfield 133) 35 := ⟨by decide +kernel, rfl⟩
theorem dX7_oldest_35 : uD 3 cX7_oldest 35 (.getfield 136) 38 := ⟨by decide +kernel, rfl⟩
theorem dX7_oldest_38 : uJ cX7_oldest 38 (fun o => .if_icmp .ge o) 76 41 := ⟨38, by decide +kernel, by decide, rfl⟩
theorem dX7_oldest_41 : uD 1 cX7_oldest 41 (.aload_n 0) 42 := ⟨by decide +kernel, rfl⟩
theorem dX7_oldest_42 : uD 3 cX7_oldest 42 (.getfield 26) 45 := ⟨by decide +kernel, rfl⟩
theorem dX7_oldest_45 : uD 3 cX7_oldest 45 (.getfield 133) 48 := ⟨by decide +kernel, rfl⟩
theorem dX7_oldest_48 : uD 3 cX7_oldest 48 (.getfield 198) 51 := ⟨by decide +kernel, rfl⟩
theorem dX7_oldest_51 : uD 1 cX7_oldest 51 (.iload_n 2) 52 := ⟨by decide +kernel, rfl⟩
theorem dX7_oldest_52 : uD 1 cX7_oldest 52 (.iaload) 53 := ⟨by decide +kernel, rfl⟩
theorem dX7_oldest_53 : uD 1 cX7_oldest 53 (.aload_n 0) 54 := ⟨by decide +kernel, rfl⟩
theorem dX7_oldest_54 : uD 3 cX7_oldest 54 (.getfield 26) 57 := ⟨by decide +kernel, rfl⟩
theorem dX7_oldest_57 : uD 3 cX7_oldest 57 (.getfield 133) 60 := ⟨by decide +kernel, rfl⟩
theorem dX7_oldest_60 : uD 3 cX7_oldest 60 (.getfield 198) 63 := ⟨by decide +kernel, rfl⟩
theorem dX7_oldest_63 : uD 1 cX7_oldest 63 (.iload_n 1) 64 := ⟨by decide +kernel, rfl⟩
theorem dX7_oldest_64 : uD 1 cX7_oldest 64 (.iaload) 65 := ⟨by decide +kernel, rfl⟩
theorem dX7_oldest_65 : uJ cX7_oldest 65 (fun o => .if_icmp .ge o) 70 68 := ⟨5, by decide +kernel, by decide, rfl⟩
theorem dX7_oldest_68 : uD 1 cX7_oldest 68 (.iload_n 2) 69 := ⟨by decide +kernel, rfl⟩
theorem dX7_oldest_69 : uD 1 cX7_oldest 69 (.istore_n 1) 70 := ⟨by decide +kernel, rfl⟩
theorem dX7_oldest_70 : uD 3 cX7_oldest 70 (.iinc 2 1) 73 := ⟨by decide +kernel, rfl⟩
theorem dX7_oldest_73 : uJ cX7_oldest 73 (fun o => .goto o) 27 76 := ⟨(-46), by decide +kernel, by decide, rfl⟩
theorem dX7_oldest_76 : uD 1 cX7_oldest 76 (.iload_n 1) 77 := ⟨by decide +kernel, rfl⟩
theorem dX7_oldest_77 : uD 1 cX7_oldest 77 (.ireturn) 78 := ⟨by decide +kernel, rfl⟩
theorem dX7_total_0 : uD 1 cX7_total 0 (.iload_n 1) 1 := ⟨by decide +kernel, rfl⟩
theorem dX7_total_1 : uJ cX7_total 1 (fun o => .ifCond .lt o) 10 4 := ⟨9, by decide +kernel, by decide, rfl⟩
theorem dX7_total_4 : uD 1 cX7_total 4 (.iload_n 1) 5 := ⟨by decide +kernel, rfl⟩
theorem dX7_total_5 : uD 2 cX7_total 5 (.bipush 7) 7 := ⟨by decide +kernel, rfl⟩
theorem dX7_total_7 : uJ cX7_total 7 (fun o => .if_icmp .lt o) 20 10 := ⟨13, by decide +kernel, by decide, rfl⟩
theorem dX7_total_10 : uD 3 cX7_total 10 (.new 109) 13 := ⟨by decide +kernel, rfl⟩
theorem dX7_total_13 : uD 1 cX7_total 13 (.dup) 14 := ⟨by decide +kernel, rfl⟩
theorem dX7_total_14 : uD 2 cX7_total 14 (.ldc 215) 16 := ⟨by decide +kernel, rfl⟩
theorem dX7_total_16 : uD 3 cX7_total 16 (.invokespecial 113) 19 := ⟨by decide +kernel, rfl⟩
theorem dX7_total_19 : uD 1 cX7_total 19 (.athrow) 20 := ⟨by decide +kernel, rfl⟩
theorem dX7_total_20 : uD 1 cX7_total 20 (.aload_n 0) 21 := ⟨by decide +kernel, rfl⟩
theorem dX7_total_21 : uD 3 cX7_total 21 (.getfield 26) 24 := ⟨by decide +kernel, rfl⟩
theorem dX7_total_24 : uD 3 cX7_total 24 (.getfield 217) 27 := ⟨by decide +kernel, rfl⟩
theorem dX7_total_27 : uD 1 cX7_total 27 (.iload_n 1) 28 := ⟨by decide +kernel, rfl⟩
theorem dX7_total_28 : uD 1 cX7_total 28 (.iaload) 29 := ⟨by decide +kernel, rfl⟩
theorem dX7_total_29 : uD 1 cX7_total 29 (.ireturn) 30 := ⟨by decide +kernel, rfl⟩
theorem dX7_write_0 : uD 1 cX7_write 0 (.aload_n 0) 1 := ⟨by decide +kernel, rfl⟩
theorem dX7_write_1 : uD 1 cX7_write 1 (.iload_n 1) 2 := ⟨by decide +kernel, rfl⟩
theorem dX7_write_2 : uD 1 cX7_write 2 (.iload_n 2) 3 := ⟨by decide +kernel, rfl⟩
theorem dX7_write_3 : uD 1 cX7_write 3 (.iload_n 3) 4 := ⟨by decide +kernel, rfl⟩
theorem dX7_write_4 : uD 3 cX7_write 4 (.invokevirtual 220) 7 := ⟨by decide +kernel, rfl⟩
theorem dX7_write_7 : uD 1 cX7_write 7 (.aload_n 0) 8 := ⟨by decide +kernel, rfl⟩
theorem dX7_write_8 : uD 1 cX7_write 8 (.iload_n 1) 9 := ⟨by decide +kernel, rfl⟩
theorem dX7_write_9 : uD 1 cX7_write 9 (.iload_n 2) 10 := ⟨by decide +kernel, rfl⟩
theorem dX7_write_10 : uD 1 cX7_write 10 (.iload_n 3) 11 := ⟨by decide +kernel, rfl⟩
theorem dX7_write_11 : uD 3 cX7_write 11 (.invokevirtual 224) 14 := ⟨by decide +kernel, rfl⟩
theorem dX7_write_14 : uD 2 cX7_write 14 (.istore 4) 16 := ⟨by decide +kernel, rfl⟩
theorem dX7_write_16 : uD 2 cX7_write 16 (.iload 4) 18 := ⟨by decide +kernel, rfl⟩
theorem dX7_write_18 : uJ cX7_write 18 (fun o => .ifCond .eq o) 57 21 := ⟨39, by decide +kernel, by decide, rfl⟩
theorem dX7_write_21 : uD 1 cX7_write 21 (.aload_n 0) 22 := ⟨by decide +kernel, rfl⟩
theorem dX7_write_22 : uD 3 cX7_write 22 (.getfield 26) 25 := ⟨by decide +kernel, rfl⟩
theorem dX7_write_25 : uD 3 cX7_write 25 (.getfield 133) 28 := ⟨by decide +kernel, rfl⟩
theorem dX7_write_28 : uD 1 cX7_write 28 (.iload_n 1) 29 := ⟨by decide +kernel, rfl⟩
theorem dX7_write_29 : uD 1 cX7_write 29 (.iload_n 2) 30 := ⟨by decide +kernel, rfl⟩
theorem dX7_write_30 : uD 1 cX7_write 30 (.iload_n 3) 31 := ⟨by decide +kernel, rfl⟩
theorem dX7_write_31 : uD 1 cX7_write 31 (.aload_n 0) 32 := ⟨by decide +kernel, rfl⟩
theorem dX7_write_32 : uD 3 cX7_write 32 (.getfield 26) 35 := ⟨by decide +kernel, rfl⟩
theorem dX7_write_35 : uD 3 cX7_write 35 (.getfield 126) 38 := ⟨by decide +kernel, rfl⟩
theorem dX7_write_38 : uD 3 cX7_write 38 (.invokevirtual 228) 41 := ⟨by decide +kernel, rfl⟩
theorem dX7_write_41 : uD 1 cX7_write 41 (.aload_n 0) 42 := ⟨by decide +kernel, rfl⟩
theorem dX7_write_42 : uD 3 cX7_write 42 (.getfield 26) 45 := ⟨by decide +kernel, rfl⟩
theorem dX7_write_45 : uD 3 cX7_write 45 (.getfield 217) 48 := ⟨by decide +kernel, rfl⟩
theorem dX7_write_48 : uD 1 cX7_write 48 (.iconst 0) 49 := ⟨by decide +kernel, rfl⟩
theorem dX7_write_49 : uD 1 cX7_write 49 (.dup2) 50 := ⟨by decide +kernel, rfl⟩
theorem dX7_write_50 : uD 1 cX7_write 50 (.iaload) 51 := ⟨by decide +kernel, rfl⟩
theorem dX7_write_51 : uD 1 cX7_write 51 (.iconst 1) 52 := ⟨by decide +kernel, rfl⟩
theorem dX7_write_52 : uD 1 cX7_write 52 (.iadd) 53 := ⟨by decide +kernel, rfl⟩
theorem dX7_write_53 : uD 1 cX7_write 53 (.iastore) 54 := ⟨by decide +kernel, rfl⟩
theorem dX7_write_54 : uJ cX7_write 54 (fun o => .goto o) 82 57 := ⟨28, by decide +kernel, by decide, rfl⟩
theorem dX7_write_57 : uD 1 cX7_write 57 (.aload_n 0) 58 := ⟨by decide +kernel, rfl⟩
theorem dX7_write_58 : uD 3 cX7_write 58 (.getfield 26) 61 := ⟨by decide +kernel, rfl⟩
theorem dX7_write_61 : uD 3 cX7_write 61 (.getfield 133) 64 := ⟨by decide +kernel, rfl⟩
theorem dX7_write_64 : uD 1 cX7_write 64 (.iload_n 1) 65 := ⟨by decide +kernel, rfl⟩
theorem dX7_write_65 : uD 1 cX7_write 65 (.iload_n 2) 66 := ⟨by decide +kernel, rfl⟩
theorem dX7_write_66 : uD 3 cX7_write 66 (.invokevirtual 232) 69 := ⟨by decide +kernel, rfl⟩
theorem dX7_write_69 : uD 1 cX7_write 69 (.aload_n 0) 70 := ⟨by decide +kernel, rfl⟩
theorem dX7_write_70 : uD 3 cX7_write 70 (.getfield 26) 73 := ⟨by decide +kernel, rfl⟩
theorem dX7_write_73 : uD 3 cX7_write 73 (.getfield 217) 76 := ⟨by decide +kernel, rfl⟩
theorem dX7_write_76 : uD 1 cX7_write 76 (.iconst 1) 77 := ⟨by decide +kernel, rfl⟩
theorem dX7_write_77 : uD 1 cX7_write 77 (.dup2) 78 := ⟨by decide +kernel, rfl⟩
theorem dX7_write_78 : uD 1 cX7_write 78 (.iaload) 79 := ⟨by decide +kernel, rfl⟩
theorem dX7_write_79 : uD 1 cX7_write 79 (.iconst 1) 80 := ⟨by decide +kernel, rfl⟩
theorem dX7_write_80 : uD 1 cX7_write 80 (.iadd) 81 := ⟨by decide +kernel, rfl⟩
theorem dX7_write_81 : uD 1 cX7_write 81 (.iastore) 82 := ⟨by decide +kernel, rfl⟩
theorem dX7_write_82 : uD 2 cX7_write 82 (.iload 4) 84 := ⟨by decide +kernel, rfl⟩
theorem dX7_write_84 : uD 1 cX7_write 84 (.ireturn) 85 := ⟨by decide +kernel, rfl⟩
theorem dX7_wouldCache_0 : uD 1 cX7_wouldCache 0 (.aload_n 0) 1 := ⟨by decide +kernel, rfl⟩
theorem dX7_wouldCache_1 : uD 1 cX7_wouldCache 1 (.iload_n 1) 2 := ⟨by decide +kernel, rfl⟩
theorem dX7_wouldCache_2 : uD 1 cX7_wouldCache 2 (.iload_n 2) 3 := ⟨by decide +kernel, rfl⟩
theorem dX7_wouldCache_3 : uD 1 cX7_wouldCache 3 (.iload_n 3) 4 := ⟨by decide +kernel, rfl⟩
theorem dX7_wouldCache_4 : uD 3 cX7_wouldCache 4 (.invokevirtual 220) 7 := ⟨by decide +kernel, rfl⟩
theorem dX7_wouldCache_7 : uD 1 cX7_wouldCache 7 (.aload_n 0) 8 := ⟨by decide +kernel, rfl⟩
theorem dX7_wouldCache_8 : uD 1 cX7_wouldCache 8 (.iload_n 1) 9 := ⟨by decide +kernel, rfl⟩
theorem dX7_wouldCache_9 : uD 1 cX7_wouldCache 9 (.iload_n 2) 10 := ⟨by decide +kernel, rfl⟩
theorem dX7_wouldCache_10 : uD 1 cX7_wouldCache 10 (.iload_n 3) 11 := ⟨by decide +kernel, rfl⟩
theorem dX7_wouldCache_11 : uD 3 cX7_wouldCache 11 (.invokevirtual 224) 14 := ⟨by decide +kernel, rfl⟩
theorem dX7_wouldCache_14 : uD 1 cX7_wouldCache 14 (.ireturn) 15 := ⟨by decide +kernel, rfl⟩
theorem dX7_clean_0 : uD 1 cX7_clean 0 (.aload_n 0) 1 := ⟨by decide +kernel, rfl⟩
theorem dX7_clean_1 : uD 1 cX7_clean 1 (.iload_n 1) 2 := ⟨by decide +kernel, rfl⟩
theorem dX7_clean_2 : uD 3 cX7_clean 2 (.invokevirtual 154) 5 := ⟨by decide +kernel, rfl⟩
theorem dX7_clean_5 : uD 1 cX7_clean 5 (.aload_n 0) 6 := ⟨by decide +kernel, rfl⟩
theorem dX7_clean_6 : uD 3 cX7_clean 6 (.getfield 26) 9 := ⟨by decide +kernel, rfl⟩
theorem dX7_clean_9 : uD 3 cX7_clean 9 (.getfield 129) 12 := ⟨by decide +kernel, rfl⟩
theorem dX7_clean_12 : uJ cX7_clean 12 (fun o => .ifCond .eq o) 30 15 := ⟨18, by decide +kernel, by decide, rfl⟩
theorem dX7_clean_15 : uD 1 cX7_clean 15 (.aload_n 0) 16 := ⟨by decide +kernel, rfl⟩
theorem dX7_clean_16 : uD 3 cX7_clean 16 (.getfield 26) 19 := ⟨by decide +kernel, rfl⟩
theorem dX7_clean_19 : uD 3 cX7_clean 19 (.getfield 117) 22 := ⟨by decide +kernel, rfl⟩
theorem dX7_clean_22 : uD 3 cX7_clean 22 (.getfield 171) 25 := ⟨by decide +kernel, rfl⟩
theorem dX7_clean_25 : uD 1 cX7_clean 25 (.iload_n 1) 26 := ⟨by decide +kernel, rfl⟩
theorem dX7_clean_26 : uD 1 cX7_clean 26 (.baload) 27 := ⟨by decide +kernel, rfl⟩
theorem dX7_clean_27 : uJ cX7_clean 27 (fun o => .ifCond .eq o) 40 30 := ⟨13, by decide +kernel, by decide, rfl⟩
theorem dX7_clean_30 : uD 3 cX7_clean 30 (.new 83) 33 := ⟨by decide +kernel, rfl⟩
theorem dX7_clean_33 : uD 1 cX7_clean 33 (.dup) 34 := ⟨by decide +kernel, rfl⟩
theorem dX7_clean_34 : uD 2 cX7_clean 34 (.ldc 236) 36 := ⟨by decide +kernel, rfl⟩
theorem dX7_clean_36 : uD 3 cX7_clean 36 (.invokespecial 87) 39 := ⟨by decide +kernel, rfl⟩
theorem dX7_clean_39 : uD 1 cX7_clean 39 (.athrow) 40 := ⟨by decide +kernel, rfl⟩
theorem dX7_clean_40 : uD 1 cX7_clean 40 (.aload_n 0) 41 := ⟨by decide +kernel, rfl⟩
theorem dX7_clean_41 : uD 3 cX7_clean 41 (.getfield 26) 44 := ⟨by decide +kernel, rfl⟩
theorem dX7_clean_44 : uD 3 cX7_clean 44 (.getfield 133) 47 := ⟨by decide +kernel, rfl⟩
theorem dX7_clean_47 : uD 1 cX7_clean 47 (.iload_n 1) 48 := ⟨by decide +kernel, rfl⟩
theorem dX7_clean_48 : uD 3 cX7_clean 48 (.invokevirtual 157) 51 := ⟨by decide +kernel, rfl⟩
theorem dX7_clean_51 : uD 1 cX7_clean 51 (.istore_n 2) 52 := ⟨by decide +kernel, rfl⟩
theorem dX7_clean_52 : uD 1 cX7_clean 52 (.iload_n 2) 53 := ⟨by decide +kernel, rfl⟩
theorem dX7_clean_53 : uD 3 cX7_clean 53 (.invokestatic 174) 56 := ⟨by decide +kernel, rfl⟩
theorem dX7_clean_56 : uD 1 cX7_clean 56 (.istore_n 3) 57 := ⟨by decide +kernel, rfl⟩
theorem dX7_clean_57 : uD 1 cX7_clean 57 (.aload_n 0) 58 := ⟨by decide +kernel, rfl⟩
theorem dX7_clean_58 : uD 3 cX7_clean 58 (.getfield 26) 61 := ⟨by decide +kernel, rfl⟩
theorem dX7_clean_61 : uD 3 cX7_clean 61 (.getfield 133) 64 := ⟨by decide +kernel, rfl⟩
theorem dX7_clean_64 : uD 1 cX7_clean 64 (.iload_n 2) 65 := ⟨by decide +kernel, rfl⟩
theorem dX7_clean_65 : uD 3 cX7_clean 65 (.invokevirtual 238) 68 := ⟨by decide +kernel, rfl⟩
theorem dX7_clean_68 : uD 1 cX7_clean 68 (.aload_n 0) 69 := ⟨by decide +kernel, rfl⟩
theorem dX7_clean_69 : uD 3 cX7_clean 69 (.getfield 26) 72 := ⟨by decide +kernel, rfl⟩
theorem dX7_clean_72 : uD 3 cX7_clean 72 (.getfield 217) 75 := ⟨by decide +kernel, rfl⟩
theorem dX7_clean_75 : uD 2 cX7_clean 75 (.bipush 6) 77 := ⟨by decide +kernel, rfl⟩
theorem dX7_clean_77 : uD 1 cX7_clean 77 (.dup2) 78 := ⟨by decide +kernel, rfl⟩
theorem dX7_clean_78 : uD 1 cX7_clean 78 (.iaload) 79 := ⟨by decide +kernel, rfl⟩
theorem dX7_clean_79 : uD 1 cX7_clean 79 (.iload_n 3) 80 := ⟨by decide +kernel, rfl⟩
theorem dX7_clean_80 : uD 1 cX7_clean 80 (.iadd) 81 := ⟨by decide +kernel, rfl⟩
theorem dX7_clean_81 : uD 1 cX7_clean 81 (.iastore) 82 := ⟨by decide +kernel, rfl⟩
theorem dX7_clean_82 : uD 1 cX7_clean 82 (.iload_n 3) 83 := ⟨by decide +kernel, rfl⟩
theorem dX7_clean_83 : uD 1 cX7_clean 83 (.ireturn) 84 := ⟨by decide +kernel, rfl⟩
theorem dX7_setFailed_0 : uD 1 cX7_setFailed 0 (.aload_n 0) 1 := ⟨by decide +kernel, rfl⟩
theorem dX7_setFailed_1 : uD 1 cX7_setFailed 1 (.iload_n 1) 2 := ⟨by decide +kernel, rfl⟩
theorem dX7_setFailed_2 : uD 3 cX7_setFailed 2 (.invokevirtual 154) 5 := ⟨by decide +kernel, rfl⟩
theorem dX7_setFailed_5 : uD 1 cX7_setFailed 5 (.aload_n 0) 6 := ⟨by decide +kernel, rfl⟩
theorem dX7_setFailed_6 : uD 3 cX7_setFailed 6 (.getfield 26) 9 := ⟨by decide +kernel, rfl⟩
theorem dX7_setFailed_9 : uD 3 cX7_setFailed 9 (.getfield 117) 12 := ⟨by decide +kernel, rfl⟩
theorem dX7_setFailed_12 : uD 3 cX7_setFailed 12 (.getfield 171) 15 := ⟨by decide +kernel, rfl⟩
theorem dX7_setFailed_15 : uD 1 cX7_setFailed 15 (.iload_n 1) 16 := ⟨by decide +kernel, rfl⟩
theorem dX7_setFailed_16 : uD 1 cX7_setFailed 16 (.baload) 17 := ⟨by decide +kernel, rfl⟩
theorem dX7_setFailed_17 : uD 1 cX7_setFailed 17 (.istore_n 3) 18 := ⟨by decide +kernel, rfl⟩
theorem dX7_setFailed_18 : uD 1 cX7_setFailed 18 (.aload_n 0) 19 := ⟨by decide +kernel, rfl⟩
theorem dX7_setFailed_19 : uD 3 cX7_setFailed 19 (.getfield 26) 22 := ⟨by decide +kernel, rfl⟩
theorem dX7_setFailed_22 : uD 3 cX7_setFailed 22 (.getfield 117) 25 := ⟨by decide +kernel, rfl⟩
theorem dX7_setFailed_25 : uD 3 cX7_setFailed 25 (.getfield 171) 28 := ⟨by decide +kernel, rfl⟩
theorem dX7_setFailed_28 : uD 1 cX7_setFailed 28 (.iload_n 1) 29 := ⟨by decide +kernel, rfl⟩
theorem dX7_setFailed_29 : uD 1 cX7_setFailed 29 (.iload_n 2) 30 := ⟨by decide +kernel, rfl⟩
theorem dX7_setFailed_30 : uD 1 cX7_setFailed 30 (.bastore) 31 := ⟨by decide +kernel, rfl⟩
theorem dX7_setFailed_31 : uD 1 cX7_setFailed 31 (.iload_n 3) 32 := ⟨by decide +kernel, rfl⟩
theorem dX7_setFailed_32 : uD 1 cX7_setFailed 32 (.ireturn) 33 := ⟨by decide +kernel, rfl⟩
theorem dX7_setMode_0 : uD 1 cX7_setMode 0 (.iload_n 1) 1 := ⟨by decide +kernel, rfl⟩
theorem dX7_setMode_1 : uJ cX7_setMode 1 (fun o => .ifCond .lt o) 9 4 := ⟨8, by decide +kernel, by decide, rfl⟩
theorem dX7_setMode_4 : uD 1 cX7_setMode 4 (.iload_n 1) 5 := ⟨by decide +kernel, rfl⟩
theorem dX7_setMode_5 : uD 1 cX7_setMode 5 (.iconst 2) 6 := ⟨by decide +kernel, rfl⟩
theorem dX7_setMode_6 : uJ cX7_setMode 6 (fun o => .if_icmp .le o) 19 9 := ⟨13, by decide +kernel, by decide, rfl⟩
theorem dX7_setMode_9 : uD 3 cX7_setMode 9 (.new 109) 12 := ⟨by decide +kernel, rfl⟩
theorem dX7_setMode_12 : uD 1 cX7_setMode 12 (.dup) 13 := ⟨by decide +kernel, rfl⟩
theorem dX7_setMode_13 : uD 2 cX7_setMode 13 (.ldc 241) 15 := ⟨by decide +kernel, rfl⟩
theorem dX7_setMode_15 : uD 3 cX7_setMode 15 (.invokespecial 113) 18 := ⟨by decide +kernel, rfl⟩
theorem dX7_setMode_18 : uD 1 cX7_setMode 18 (.athrow) 19 := ⟨by decide +kernel, rfl⟩
theorem dX7_setMode_19 : uD 1 cX7_setMode 19 (.iload_n 1) 20 := ⟨by decide +kernel, rfl⟩
theorem dX7_setMode_20 : uD 1 cX7_setMode 20 (.iconst 1) 21 := ⟨by decide +kernel, rfl⟩
theorem dX7_setMode_21 : uJ cX7_setMode 21 (fun o => .if_icmp .ne o) 28 24 := ⟨7, by decide +kernel, by decide, rfl⟩
theorem dX7_setMode_24 : uD 1 cX7_setMode 24 (.iconst 1) 25 := ⟨by decide +kernel, rfl⟩
theorem dX7_setMode_25 : uJ cX7_setMode 25 (fun o => .goto o) 29 28 := ⟨4, by decide +kernel, by decide, rfl⟩
theorem dX7_setMode_28 : uD 1 cX7_setMode 28 (.iconst 0) 29 := ⟨by decide +kernel, rfl⟩
theorem dX7_setMode_29 : uD 1 cX7_setMode 29 (.istore_n 3) 30 := ⟨by decide +kernel, rfl⟩
theorem dX7_setMode_30 : uD 1 cX7_setMode 30 (.iload_n 1) 31 := ⟨by decide +kernel, rfl⟩
theorem dX7_setMode_31 : uD 1 cX7_setMode 31 (.iconst 1) 32 := ⟨by decide +kernel, rfl⟩
theorem dX7_setMode_32 : uJ cX7_setMode 32 (fun o => .if_icmp .ne o) 40 35 := ⟨8, by decide +kernel, by decide, rfl⟩
theorem dX7_setMode_35 : uD 2 cX7_setMode 35 (.bipush 99) 37 := ⟨by decide +kernel, rfl⟩
theorem dX7_setMode_37 : uJ cX7_setMode 37 (fun o => .goto o) 41 40 := ⟨4, by decide +kernel, by decide, rfl⟩
theorem dX7_setMode_40 : uD 1 cX7_setMode 40 (.iconst 0) 41 := ⟨by decide +kernel, rfl⟩
theorem dX7_setMode_41 : uD 2 cX7_setMode 41 (.istore 4) 43 := ⟨by decide +kernel, rfl⟩
theorem dX7_setMode_43 : uD 1 cX7_setMode 43 (.iload_n 2) 44 := ⟨by decide +kernel, rfl⟩
theorem dX7_setMode_44 : uD 1 cX7_setMode 44 (.iload_n 3) 45 := ⟨by decide +kernel, rfl⟩
theorem dX7_setMode_45 : uJ cX7_setMode 45 (fun o => .if_icmp .lt o) 54 48 := ⟨9, by decide +kernel, by decide, rfl⟩
theorem dX7_setMode_48 : uD 1 cX7_setMode 48 (.iload_n 2) 49 := ⟨by decide +kernel, rfl⟩
theorem dX7_setMode_49 : uD 2 cX7_setMode 49 (.iload 4) 51 := ⟨by decide +kernel, rfl⟩
theorem dX7_setMode_51 : uJ cX7_setMode 51 (fun o => .if_icmp .le o) 64 54 := ⟨13, by decide +kernel, by decide, rfl⟩
theorem dX7_setMode_54 : uD 3 cX7_setMode 54 (.new 109) 57 := ⟨by decide +kernel, rfl⟩
theorem dX7_setMode_57 : uD 1 cX7_setMode 57 (.dup) 58 := ⟨by decide +kernel, rfl⟩
theorem dX7_setMode_58 : uD 2 cX7_setMode 58 (.ldc 243) 60 := ⟨by decide +kernel, rfl⟩
theorem dX7_setMode_60 : uD 3 cX7_setMode 60 (.invokespecial 113) 63 := ⟨by decide +kernel, rfl⟩
theorem dX7_setMode_63 : uD 1 cX7_setMode 63 (.athrow) 64 := ⟨by decide +kernel, rfl⟩
theorem dX7_setMode_64 : uD 1 cX7_setMode 64 (.aload_n 0) 65 := ⟨by decide +kernel, rfl⟩
theorem dX7_setMode_65 : uD 3 cX7_setMode 65 (.getfield 26) 68 := ⟨by decide +kernel, rfl⟩
theorem dX7_setMode_68 : uD 3 cX7_setMode 68 (.getfield 137) 71 := ⟨by decide +kernel, rfl⟩
theorem dX7_setMode_71 : uD 3 cX7_setMode 71 (.getfield 141) 74 := ⟨by decide +kernel, rfl⟩
theorem dX7_setMode_74 : uD 2 cX7_setMode 74 (.istore 5) 76 := ⟨by decide +kernel, rfl⟩
theorem dX7_setMode_76 : uD 1 cX7_setMode 76 (.aload_n 0) 77 := ⟨by decide +kernel, rfl⟩
theorem dX7_setMode_77 : uD 3 cX7_setMode 77 (.getfield 26) 80 := ⟨by decide +kernel, rfl⟩
theorem dX7_setMode_80 : uD 3 cX7_setMode 80 (.getfield 137) 83 := ⟨by decide +kernel, rfl⟩
theorem dX7_setMode_83 : uD 1 cX7_setMode 83 (.iload_n 1) 84 := ⟨by decide +kernel, rfl⟩
theorem dX7_setMode_84 : uD 3 cX7_setMode 84 (.putfield 141) 87 := ⟨by decide +kernel, rfl⟩
theorem dX7_setMode_87 : uD 1 cX7_setMode 87 (.aload_n 0) 88 := ⟨by decide +kernel, rfl⟩
theorem dX7_setMode_88 : uD 3 cX7_setMode 88 (.getfield 26) 91 := ⟨by decide +kernel, rfl⟩
theorem dX7_setMode_91 : uD 3 cX7_setMode 91 (.getfield 137) 94 := ⟨by decide +kernel, rfl⟩
theorem dX7_setMode_94 : uD 1 cX7_setMode 94 (.iload_n 2) 95 := ⟨by decide +kernel, rfl⟩
theorem dX7_setMode_95 : uD 3 cX7_setMode 95 (.putfield 146) 98 := ⟨by decide +kernel, rfl⟩
theorem dX7_setMode_98 : uD 2 cX7_setMode 98 (.iload 5) 100 := ⟨by decide +kernel, rfl⟩
theorem dX7_setMode_100 : uD 1 cX7_setMode 100 (.ireturn) 101 := ⟨by decide +kernel, rfl⟩
theorem dX7_setPower_0 : uD 1 cX7_setPower 0 (.aload_n 0) 1 := ⟨by decide +kernel, rfl⟩
theorem dX7_setPower_1 : uD 3 cX7_setPower 1 (.getfield 26) 4 := ⟨by decide +kernel, rfl⟩
theorem dX7_setPower_4 : uD 3 cX7_setPower 4 (.getfield 129) 7 := ⟨by decide +kernel, rfl⟩
theorem dX7_setPower_7 : uD 1 cX7_setPower 7 (.istore_n 2) 8 := ⟨by decide +kernel, rfl⟩
theorem dX7_setPower_8 : uD 1 cX7_setPower 8 (.aload_n 0) 9 := ⟨by decide +kernel, rfl⟩
theorem dX7_setPower_9 : uD 3 cX7_setPower 9 (.getfield 26) 12 := ⟨by decide +kernel, rfl⟩
theorem dX7_setPower_12 : uD 1 cX7_setPower 12 (.iload_n 1) 13 := ⟨by decide +kernel, rfl⟩
theorem dX7_setPower_13 : uD 3 cX7_setPower 13 (.putfield 129) 16 := ⟨by decide +kernel, rfl⟩
theorem dX7_setPower_16 : uD 1 cX7_setPower 16 (.iload_n 2) 17 := ⟨by decide +kernel, rfl⟩
theorem dX7_setPower_17 : uD 1 cX7_setPower 17 (.ireturn) 18 := ⟨by decide +kernel, rfl⟩
theorem dX7_advance_0 : uD 1 cX7_advance 0 (.iload_n 1) 1 := ⟨by decide +kernel, rfl⟩
theorem dX7_advance_1 : uD 1 cX7_advance 1 (.iconst 1) 2 := ⟨by decide +kernel, rfl⟩
theorem dX7_advance_2 : uJ cX7_advance 2 (fun o => .if_icmp .lt o) 12 5 := ⟨10, by decide +kernel, by decide, rfl⟩
theorem dX7_advance_5 : uD 1 cX7_advance 5 (.iload_n 1) 6 := ⟨by decide +kernel, rfl⟩
theorem dX7_advance_6 : uD 3 cX7_advance 6 (.sipush 1000) 9 := ⟨by decide +kernel, rfl⟩
theorem dX7_advance_9 : uJ cX7_advance 9 (fun o => .if_icmp .le o) 22 12 := ⟨13, by decide +kernel, by decide, rfl⟩
theorem dX7_advance_12 : uD 3 cX7_advance 12 (.new 109) 15 := ⟨by decide +kernel, rfl⟩
theorem dX7_advance_15 : uD 1 cX7_advance 15 (.dup) 16 := ⟨by decide +kernel, rfl⟩
theorem dX7_advance_16 : uD 2 cX7_advance 16 (.ldc 245) 18 := ⟨by decide +kernel, rfl⟩
theorem dX7_advance_18 : uD 3 cX7_advance 18 (.invokespecial 113) 21 := ⟨by decide +kernel, rfl⟩
theorem dX7_advance_21 : uD 1 cX7_advance 21 (.athrow) 22 := ⟨by decide +kernel, rfl⟩
theorem dX7_advance_22 : uD 1 cX7_advance 22 (.iconst 0) 23 := ⟨by decide +kernel, rfl⟩
theorem dX7_advance_23 : uD 1 cX7_advance 23 (.istore_n 2) 24 := ⟨by decide +kernel, rfl⟩
theorem dX7_advance_24 : uD 1 cX7_advance 24 (.iconst 0) 25 := ⟨by decide +kernel, rfl⟩
theorem dX7_advance_25 : uD 1 cX7_advance 25 (.istore_n 3) 26 := ⟨by decide +kernel, rfl⟩
theorem dX7_advance_26 : uD 1 cX7_advance 26 (.iload_n 3) 27 := ⟨by decide +kernel, rfl⟩
theorem dX7_advance_27 : uD 1 cX7_advance 27 (.iload_n 1) 28 := ⟨by decide +kernel, rfl⟩
theorem dX7_advance_28 : uJ cX7_advance 28 (fun o => .if_icmp .ge o) 47 31 := ⟨19, by decide +kernel, by decide, rfl⟩
theorem dX7_advance_31 : uD 1 cX7_advance 31 (.iload_n 2) 32 := ⟨by decide +kernel, rfl⟩
theorem dX7_advance_32 : uD 1 cX7_advance 32 (.aload_n 0) 33 := ⟨by decide +kernel, rfl⟩
theorem dX7_advance_33 : uD 3 cX7_advance 33 (.getfield 26) 36 := ⟨by decide +kernel, rfl⟩
theorem dX7_advance_36 : uD 3 cX7_advance 36 (.invokevirtual 247) 39 := ⟨by decide +kernel, rfl⟩
theorem dX7_advance_39 : uD 1 cX7_advance 39 (.iadd) 40 := ⟨by decide +kernel, rfl⟩
theorem dX7_advance_40 : uD 1 cX7_advance 40 (.istore_n 2) 41 := ⟨by decide +kernel, rfl⟩
theorem dX7_advance_41 : uD 3 cX7_advance 41 (.iinc 3 1) 44 := ⟨by decide +kernel, rfl⟩
theorem dX7_advance_44 : uJ cX7_advance 44 (fun o => .goto o) 26 47 := ⟨(-18), by decide +kernel, by decide, rfl⟩
theorem dX7_advance_47 : uD 1 cX7_advance 47 (.iload_n 2) 48 := ⟨by decide +kernel, rfl⟩
theorem dX7_advance_48 : uD 1 cX7_advance 48 (.ireturn) 49 := ⟨by decide +kernel, rfl⟩
theorem dX7_flush_0 : uD 1 cX7_flush 0 (.aload_n 0) 1 := ⟨by decide +kernel, rfl⟩
theorem dX7_flush_1 : uD 3 cX7_flush 1 (.getfield 26) 4 := ⟨by decide +kernel, rfl⟩
theorem dX7_flush_4 : uD 3 cX7_flush 4 (.getfield 129) 7 := ⟨by decide +kernel, rfl⟩
theorem dX7_flush_7 : uJ cX7_flush 7 (fun o => .ifCond .eq o) 20 10 := ⟨13, by decide +kernel, by decide, rfl⟩
theorem dX7_flush_10 : uD 3 cX7_flush 10 (.new 83) 13 := ⟨by decide +kernel, rfl⟩
theorem dX7_flush_13 : uD 1 cX7_flush 13 (.dup) 14 := ⟨by decide +kernel, rfl⟩
theorem dX7_flush_14 : uD 2 cX7_flush 14 (.ldc 251) 16 := ⟨by decide +kernel, rfl⟩
theorem dX7_flush_16 : uD 3 cX7_flush 16 (.invokespecial 87) 19 := ⟨by decide +kernel, rfl⟩
theorem dX7_flush_19 : uD 1 cX7_flush 19 (.athrow) 20 := ⟨by decide +kernel, rfl⟩
theorem dX7_flush_20 : uD 1 cX7_flush 20 (.aload_n 0) 21 := ⟨by decide +kernel, rfl⟩
theorem dX7_flush_21 : uD 1 cX7_flush 21 (.aload_n 0) 22 := ⟨by decide +kernel, rfl⟩
theorem dX7_flush_22 : uD 3 cX7_flush 22 (.getfield 44) 25 := ⟨by decide +kernel, rfl⟩
theorem dX7_flush_25 : uD 1 cX7_flush 25 (.aload_n 0) 26 := ⟨by decide +kernel, rfl⟩
theorem dX7_flush_26 : uD 3 cX7_flush 26 (.getfield 26) 29 := ⟨by decide +kernel, rfl⟩
theorem dX7_flush_29 : uD 1 cX7_flush 29 (.aload_n 0) 30 := ⟨by decide +kernel, rfl⟩
theorem dX7_flush_30 : uD 3 cX7_flush 30 (.getfield 26) 33 := ⟨by decide +kernel, rfl⟩
theorem dX7_flush_33 : uD 3 cX7_flush 33 (.invokevirtual 253) 36 := ⟨by decide +kernel, rfl⟩
theorem dX7_flush_36 : uD 1 cX7_flush 36 (.aload_n 0) 37 := ⟨by decide +kernel, rfl⟩
theorem dX7_flush_37 : uD 3 cX7_flush 37 (.getfield 26) 40 := ⟨by decide +kernel, rfl⟩
theorem dX7_flush_40 : uD 3 cX7_flush 40 (.getfield 62) 43 := ⟨by decide +kernel, rfl⟩
theorem dX7_flush_43 : uD 3 cX7_flush 43 (.getfield 68) 46 := ⟨by decide +kernel, rfl⟩
theorem dX7_flush_46 : uD 3 cX7_flush 46 (.invokevirtual 256) 49 := ⟨by decide +kernel, rfl⟩
theorem dX7_flush_49 : uD 3 cX7_flush 49 (.invokevirtual 260) 52 := ⟨by decide +kernel, rfl⟩
theorem dX7_flush_52 : uD 1 cX7_flush 52 (.ireturn) 53 := ⟨by decide +kernel, rfl⟩
theorem dX7_flushDevice_0 : uD 1 cX7_flushDevice 0 (.aload_n 0) 1 := ⟨by decide +kernel, rfl⟩
theorem dX7_flushDevice_1 : uD 1 cX7_flushDevice 1 (.iload_n 1) 2 := ⟨by decide +kernel, rfl⟩
theorem dX7_flushDevice_2 : uD 3 cX7_flushDevice 2 (.invokevirtual 154) 5 := ⟨by decide +kernel, rfl⟩
theorem dX7_flushDevice_5 : uD 1 cX7_flushDevice 5 (.aload_n 0) 6 := ⟨by decide +kernel, rfl⟩
theorem dX7_flushDevice_6 : uD 3 cX7_flushDevice 6 (.getfield 26) 9 := ⟨by decide +kernel, rfl⟩
theorem dX7_flushDevice_9 : uD 3 cX7_flushDevice 9 (.getfield 133) 12 := ⟨by decide +kernel, rfl⟩
theorem dX7_flushDevice_12 : uD 1 cX7_flushDevice 12 (.iload_n 1) 13 := ⟨by decide +kernel, rfl⟩
theorem dX7_flushDevice_13 : uD 3 cX7_flushDevice 13 (.invokevirtual 157) 16 := ⟨by decide +kernel, rfl⟩
theorem dX7_flushDevice_16 : uD 1 cX7_flushDevice 16 (.istore_n 2) 17 := ⟨by decide +kernel, rfl⟩
theorem dX7_flushDevice_17 : uD 1 cX7_flushDevice 17 (.aload_n 0) 18 := ⟨by decide +kernel, rfl⟩
theorem dX7_flushDevice_18 : uD 3 cX7_flushDevice 18 (.getfield 26) 21 := ⟨by decide +kernel, rfl⟩
theorem dX7_flushDevice_21 : uD 3 cX7_flushDevice 21 (.getfield 129) 24 := ⟨by decide +kernel, rfl⟩
theorem dX7_flushDevice_24 : uJ cX7_flushDevice 24 (fun o => .ifCond .ne o) 73 27 := ⟨49, by decide +kernel, by decide, rfl⟩
theorem dX7_flushDevice_27 : uD 1 cX7_flushDevice 27 (.aload_n 0) 28 := ⟨by decide +kernel, rfl⟩
theorem dX7_flushDevice_28 : uD 3 cX7_flushDevice 28 (.getfield 26) 31 := ⟨by decide +kernel, rfl⟩
theorem dX7_flushDevice_31 : uD 3 cX7_flushDevice 31 (.getfield 117) 34 := ⟨by decide +kernel, rfl⟩
theorem dX7_flushDevice_34 : uD 3 cX7_flushDevice 34 (.getfield 171) 37 := ⟨by decide +kernel, rfl⟩
theorem dX7_flushDevice_37 : uD 1 cX7_flushDevice 37 (.iload_n 1) 38 := ⟨by decide +kernel, rfl⟩
theorem dX7_flushDevice_38 : uD 1 cX7_flushDevice 38 (.baload) 39 := ⟨by decide +kernel, rfl⟩
theorem dX7_flushDevice_39 : uJ cX7_flushDevice 39 (fun o => .ifCond .ne o) 73 42 := ⟨34, by decide +kernel, by decide, rfl⟩
theorem dX7_flushDevice_42 : uD 1 cX7_flushDevice 42 (.aload_n 0) 43 := ⟨by decide +kernel, rfl⟩
theorem dX7_flushDevice_43 : uD 3 cX7_flushDevice 43 (.getfield 26) 46 := ⟨by decide +kernel, rfl⟩
theorem dX7_flushDevice_46 : uD 3 cX7_flushDevice 46 (.getfield 62) 49 := ⟨by decide +kernel, rfl⟩
theorem dX7_flushDevice_49 : uD 3 cX7_flushDevice 49 (.getfield 68) 52 := ⟨by decide +kernel, rfl⟩
theorem dX7_flushDevice_52 : uD 1 cX7_flushDevice 52 (.aload_n 0) 53 := ⟨by decide +kernel, rfl⟩
theorem dX7_flushDevice_53 : uD 3 cX7_flushDevice 53 (.getfield 26) 56 := ⟨by decide +kernel, rfl⟩
theorem dX7_flushDevice_56 : uD 3 cX7_flushDevice 56 (.getfield 117) 59 := ⟨by decide +kernel, rfl⟩
theorem dX7_flushDevice_59 : uD 1 cX7_flushDevice 59 (.aload_n 0) 60 := ⟨by decide +kernel, rfl⟩
theorem dX7_flushDevice_60 : uD 3 cX7_flushDevice 60 (.getfield 26) 63 := ⟨by decide +kernel, rfl⟩
theorem dX7_flushDevice_63 : uD 3 cX7_flushDevice 63 (.getfield 133) 66 := ⟨by decide +kernel, rfl⟩
theorem dX7_flushDevice_66 : uD 1 cX7_flushDevice 66 (.iload_n 2) 67 := ⟨by decide +kernel, rfl⟩
theorem dX7_flushDevice_67 : uD 3 cX7_flushDevice 67 (.invokevirtual 182) 70 := ⟨by decide +kernel, rfl⟩
theorem dX7_flushDevice_70 : uJ cX7_flushDevice 70 (fun o => .if_icmp .ge o) 84 73 := ⟨14, by decide +kernel, by decide, rfl⟩
theorem dX7_flushDevice_73 : uD 3 cX7_flushDevice 73 (.new 83) 76 := ⟨by decide +kernel, rfl⟩
theorem dX7_flushDevice_76 : uD 1 cX7_flushDevice 76 (.dup) 77 := ⟨by decide +kernel, rfl⟩
theorem dX7_flushDevice_77 : uD 3 cX7_flushDevice 77 (.ldc_w 263) 80 := ⟨by decide +kernel, rfl⟩
theorem dX7_flushDevice_80 : uD 3 cX7_flushDevice 80 (.invokespecial 87) 83 := ⟨by decide +kernel, rfl⟩
theorem dX7_flushDevice_83 : uD 1 cX7_flushDevice 83 (.athrow) 84 := ⟨by decide +kernel, rfl⟩
theorem dX7_flushDevice_84 : uD 1 cX7_flushDevice 84 (.aload_n 0) 85 := ⟨by decide +kernel, rfl⟩
theorem dX7_flushDevice_85 : uD 1 cX7_flushDevice 85 (.iload_n 2) 86 := ⟨by decide +kernel, rfl⟩
theorem dX7_flushDevice_86 : uD 3 cX7_flushDevice 86 (.invokevirtual 260) 89 := ⟨by decide +kernel, rfl⟩
theorem dX7_flushDevice_89 : uD 1 cX7_flushDevice 89 (.ireturn) 90 := ⟨by decide +kernel, rfl⟩
theorem dX7_need_0 : uD 1 cX7_need 0 (.aload_n 0) 1 := ⟨by decide +kernel, rfl⟩
theorem dX7_need_1 : uD 3 cX7_need 1 (.getfield 26) 4 := ⟨by decide +kernel, rfl⟩
theorem dX7_need_4 : uD 3 cX7_need 4 (.invokevirtual 265) 7 := ⟨by decide +kernel, rfl⟩
theorem dX7_need_7 : uD 1 cX7_need 7 (.ireturn) 8 := ⟨by decide +kernel, rfl⟩
theorem dX7_energyOf_0 : uD 1 cX7_energyOf 0 (.aload_n 0) 1 := ⟨by decide +kernel, rfl⟩
theorem dX7_energyOf_1 : uD 1 cX7_energyOf 1 (.iload_n 1) 2 := ⟨by decide +kernel, rfl⟩
theorem dX7_energyOf_2 : uD 3 cX7_energyOf 2 (.invokevirtual 268) 5 := ⟨by decide +kernel, rfl⟩
theorem dX7_energyOf_5 : uD 1 cX7_energyOf 5 (.aload_n 0) 6 := ⟨by decide +kernel, rfl⟩
theorem dX7_energyOf_6 : uD 3 cX7_energyOf 6 (.getfield 26) 9 := ⟨by decide +kernel, rfl⟩
theorem dX7_energyOf_9 : uD 3 cX7_energyOf 9 (.getfield 117) 12 := ⟨by decide +kernel, rfl⟩
theorem dX7_energyOf_12 : uD 1 cX7_energyOf 12 (.aload_n 0) 13 := ⟨by decide +kernel, rfl⟩
theorem dX7_energyOf_13 : uD 3 cX7_energyOf 13 (.getfield 26) 16 := ⟨by decide +kernel, rfl⟩
theorem dX7_energyOf_16 : uD 3 cX7_energyOf 16 (.getfield 133) 19 := ⟨by decide +kernel, rfl⟩
theorem dX7_energyOf_19 : uD 1 cX7_energyOf 19 (.iload_n 1) 20 := ⟨by decide +kernel, rfl⟩
theorem dX7_energyOf_20 : uD 3 cX7_energyOf 20 (.invokevirtual 182) 23 := ⟨by decide +kernel, rfl⟩
theorem dX7_energyOf_23 : uD 1 cX7_energyOf 23 (.ireturn) 24 := ⟨by decide +kernel, rfl⟩
theorem dX7_valueOf_0 : uD 1 cX7_valueOf 0 (.aload_n 0) 1 := ⟨by decide +kernel, rfl⟩
theorem dX7_valueOf_1 : uD 1 cX7_valueOf 1 (.iload_n 1) 2 := ⟨by decide +kernel, rfl⟩
theorem dX7_valueOf_2 : uD 3 cX7_valueOf 2 (.invokevirtual 268) 5 := ⟨by decide +kernel, rfl⟩
theorem dX7_valueOf_5 : uD 1 cX7_valueOf 5 (.aload_n 0) 6 := ⟨by decide +kernel, rfl⟩
theorem dX7_valueOf_6 : uD 3 cX7_valueOf 6 (.getfield 26) 9 := ⟨by decide +kernel, rfl⟩
theorem dX7_valueOf_9 : uD 3 cX7_valueOf 9 (.getfield 133) 12 := ⟨by decide +kernel, rfl⟩
theorem dX7_valueOf_12 : uD 1 cX7_valueOf 12 (.iload_n 1) 13 := ⟨by decide +kernel, rfl⟩
theorem dX7_valueOf_13 : uD 3 cX7_valueOf 13 (.invokevirtual 179) 16 := ⟨by decide +kernel, rfl⟩
theorem dX7_valueOf_16 : uD 1 cX7_valueOf 16 (.ireturn) 17 := ⟨by decide +kernel, rfl⟩
theorem dX7_bestSet_0 : uD 1 cX7_bestSet 0 (.aload_n 0) 1 := ⟨by decide +kernel, rfl⟩
theorem dX7_bestSet_1 : uD 1 cX7_bestSet 1 (.iload_n 1) 2 := ⟨by decide +kernel, rfl⟩
theorem dX7_bestSet_2 : uD 3 cX7_bestSet 2 (.invokevirtual 271) 5 := ⟨by decide +kernel, rfl⟩
theorem dX7_bestSet_5 : uD 1 cX7_bestSet 5 (.aload_n 0) 6 := ⟨by decide +kernel, rfl⟩
theorem dX7_bestSet_6 : uD 3 cX7_bestSet 6 (.getfield 44) 9 := ⟨by decide +kernel, rfl⟩
theorem dX7_bestSet_9 : uD 1 cX7_bestSet 9 (.aload_n 0) 10 := ⟨by decide +kernel, rfl⟩
theorem dX7_bestSet_10 : uD 3 cX7_bestSet 10 (.getfield 26) 13 := ⟨by decide +kernel, rfl⟩
theorem dX7_bestSet_13 : uD 1 cX7_bestSet 13 (.aload_n 0) 14 := ⟨by decide +kernel, rfl⟩
theorem dX7_bestSet_14 : uD 3 cX7_bestSet 14 (.getfield 26) 17 := ⟨by decide +kernel, rfl⟩
theorem dX7_bestSet_17 : uD 3 cX7_bestSet 17 (.invokevirtual 253) 20 := ⟨by decide +kernel, rfl⟩
theorem dX7_bestSet_20 : uD 1 cX7_bestSet 20 (.iload_n 1) 21 := ⟨by decide +kernel, rfl⟩
theorem dX7_bestSet_21 : uD 3 cX7_bestSet 21 (.invokevirtual 256) 24 := ⟨by decide +kernel, rfl⟩
theorem dX7_bestSet_24 : uD 1 cX7_bestSet 24 (.ireturn) 25 := ⟨by decide +kernel, rfl⟩
theorem dX7_bestValue_0 : uD 1 cX7_bestValue 0 (.aload_n 0) 1 := ⟨by decide +kernel, rfl⟩
theorem dX7_bestValue_1 : uD 1 cX7_bestValue 1 (.iload_n 1) 2 := ⟨by decide +kernel, rfl⟩
theorem dX7_bestValue_2 : uD 3 cX7_bestValue 2 (.invokevirtual 271) 5 := ⟨by decide +kernel, rfl⟩
theorem dX7_bestValue_5 : uD 1 cX7_bestValue 5 (.aload_n 0) 6 := ⟨by decide +kernel, rfl⟩
theorem dX7_bestValue_6 : uD 1 cX7_bestValue 6 (.aload_n 0) 7 := ⟨by decide +kernel, rfl⟩
theorem dX7_bestValue_7 : uD 3 cX7_bestValue 7 (.getfield 26) 10 := ⟨by decide +kernel, rfl⟩
theorem dX7_bestValue_10 : uD 3 cX7_bestValue 10 (.invokevirtual 253) 13 := ⟨by decide +kernel, rfl⟩
theorem dX7_bestValue_13 : uD 1 cX7_bestValue 13 (.iload_n 1) 14 := ⟨by decide +kernel, rfl⟩
theorem dX7_bestValue_14 : uD 3 cX7_bestValue 14 (.invokevirtual 274) 17 := ⟨by decide +kernel, rfl⟩
theorem dX7_bestValue_17 : uD 1 cX7_bestValue 17 (.ireturn) 18 := ⟨by decide +kernel, rfl⟩
theorem dX7_greedySet_0 : uD 1 cX7_greedySet 0 (.aload_n 0) 1 := ⟨by decide +kernel, rfl⟩
theorem dX7_greedySet_1 : uD 1 cX7_greedySet 1 (.iload_n 1) 2 := ⟨by decide +kernel, rfl⟩
theorem dX7_greedySet_2 : uD 3 cX7_greedySet 2 (.invokevirtual 271) 5 := ⟨by decide +kernel, rfl⟩
theorem dX7_greedySet_5 : uD 1 cX7_greedySet 5 (.aload_n 0) 6 := ⟨by decide +kernel, rfl⟩
theorem dX7_greedySet_6 : uD 1 cX7_greedySet 6 (.iload_n 1) 7 := ⟨by decide +kernel, rfl⟩
theorem dX7_greedySet_7 : uD 3 cX7_greedySet 7 (.invokevirtual 277) 10 := ⟨by decide +kernel, rfl⟩
theorem dX7_greedySet_10 : uD 1 cX7_greedySet 10 (.ireturn) 11 := ⟨by decide +kernel, rfl⟩
theorem dX7_quality_0 : uD 1 cX7_quality 0 (.aload_n 0) 1 := ⟨by decide +kernel, rfl⟩
theorem dX7_quality_1 : uD 1 cX7_quality 1 (.iload_n 1) 2 := ⟨by decide +kernel, rfl⟩
theorem dX7_quality_2 : uD 3 cX7_quality 2 (.invokevirtual 271) 5 := ⟨by decide +kernel, rfl⟩
theorem dX7_quality_5 : uD 1 cX7_quality 5 (.aload_n 0) 6 := ⟨by decide +kernel, rfl⟩
theorem dX7_quality_6 : uD 1 cX7_quality 6 (.aload_n 0) 7 := ⟨by decide +kernel, rfl⟩
theorem dX7_quality_7 : uD 3 cX7_quality 7 (.getfield 26) 10 := ⟨by decide +kernel, rfl⟩
theorem dX7_quality_10 : uD 3 cX7_quality 10 (.invokevirtual 253) 13 := ⟨by decide +kernel, rfl⟩
theorem dX7_quality_13 : uD 1 cX7_quality 13 (.iload_n 1) 14 := ⟨by decide +kernel, rfl⟩
theorem dX7_quality_14 : uD 3 cX7_quality 14 (.invokevirtual 274) 17 := ⟨by decide +kernel, rfl⟩
theorem dX7_quality_17 : uD 1 cX7_quality 17 (.istore_n 2) 18 := ⟨by decide +kernel, rfl⟩
theorem dX7_quality_18 : uD 1 cX7_quality 18 (.iload_n 2) 19 := ⟨by decide +kernel, rfl⟩
theorem dX7_quality_19 : uJ cX7_quality 19 (fun o => .ifCond .ne o) 33 22 := ⟨14, by decide +kernel, by decide, rfl⟩
theorem dX7_quality_22 : uD 3 cX7_quality 22 (.new 208) 25 := ⟨by decide +kernel, rfl⟩
theorem dX7_quality_25 : uD 1 cX7_quality 25 (.dup) 26 := ⟨by decide +kernel, rfl⟩
theorem dX7_quality_26 : uD 3 cX7_quality 26 (.ldc_w 280) 29 := ⟨by decide +kernel, rfl⟩
theorem dX7_quality_29 : uD 3 cX7_quality 29 (.invokespecial 212) 32 := ⟨by decide +kernel, rfl⟩
theorem dX7_quality_32 : uD 1 cX7_quality 32 (.athrow) 33 := ⟨by decide +kernel, rfl⟩
theorem dX7_quality_33 : uD 1 cX7_quality 33 (.aload_n 0) 34 := ⟨by decide +kernel, rfl⟩
theorem dX7_quality_34 : uD 3 cX7_quality 34 (.getfield 26) 37 := ⟨by decide +kernel, rfl⟩
theorem dX7_quality_37 : uD 3 cX7_quality 37 (.getfield 133) 40 := ⟨by decide +kernel, rfl⟩
theorem dX7_quality_40 : uD 1 cX7_quality 40 (.aload_n 0) 41 := ⟨by decide +kernel, rfl⟩
theorem dX7_quality_41 : uD 1 cX7_quality 41 (.iload_n 1) 42 := ⟨by decide +kernel, rfl⟩
theorem dX7_quality_42 : uD 3 cX7_quality 42 (.invokevirtual 277) 45 := ⟨by decide +kernel, rfl⟩
theorem dX7_quality_45 : uD 3 cX7_quality 45 (.invokevirtual 179) 48 := ⟨by decide +kernel, rfl⟩
theorem dX7_quality_48 : uD 1 cX7_quality 48 (.i2d) 49 := ⟨by decide +kernel, rfl⟩
theorem dX7_quality_49 : uD 1 cX7_quality 49 (.iload_n 2) 50 := ⟨by decide +kernel, rfl⟩
theorem dX7_quality_50 : uD 1 cX7_quality 50 (.i2d) 51 := ⟨by decide +kernel, rfl⟩
theorem dX7_quality_51 : uD 1 cX7_quality 51 (.ddiv) 52 := ⟨by decide +kernel, rfl⟩
theorem dX7_quality_52 : uD 1 cX7_quality 52 (.dreturn) 53 := ⟨by decide +kernel, rfl⟩
theorem dX7_energyFor_0 : uD 1 cX7_energyFor 0 (.iload_n 1) 1 := ⟨by decide +kernel, rfl⟩
theorem dX7_energyFor_1 : uJ cX7_energyFor 1 (fun o => .ifCond .lt o) 11 4 := ⟨10, by decide +kernel, by decide, rfl⟩
theorem dX7_energyFor_4 : uD 1 cX7_energyFor 4 (.iload_n 1) 5 := ⟨by decide +kernel, rfl⟩
theorem dX7_energyFor_5 : uD 3 cX7_energyFor 5 (.sipush 2376) 8 := ⟨by decide +kernel, rfl⟩
theorem dX7_energyFor_8 : uJ cX7_energyFor 8 (fun o => .if_icmp .le o) 22 11 := ⟨14, by decide +kernel, by decide, rfl⟩
theorem dX7_energyFor_11 : uD 3 cX7_energyFor 11 (.new 109) 14 := ⟨by decide +kernel, rfl⟩
theorem dX7_energyFor_14 : uD 1 cX7_energyFor 14 (.dup) 15 := ⟨by decide +kernel, rfl⟩
theorem dX7_energyFor_15 : uD 3 cX7_energyFor 15 (.ldc_w 282) 18 := ⟨by decide +kernel, rfl⟩
theorem dX7_energyFor_18 : uD 3 cX7_energyFor 18 (.invokespecial 113) 21 := ⟨by decide +kernel, rfl⟩
theorem dX7_energyFor_21 : uD 1 cX7_energyFor 21 (.athrow) 22 := ⟨by decide +kernel, rfl⟩
theorem dX7_energyFor_22 : uD 1 cX7_energyFor 22 (.aload_n 0) 23 := ⟨by decide +kernel, rfl⟩
theorem dX7_energyFor_23 : uD 3 cX7_energyFor 23 (.getfield 44) 26 := ⟨by decide +kernel, rfl⟩
theorem dX7_energyFor_26 : uD 1 cX7_energyFor 26 (.aload_n 0) 27 := ⟨by decide +kernel, rfl⟩
theorem dX7_energyFor_27 : uD 3 cX7_energyFor 27 (.getfield 26) 30 := ⟨by decide +kernel, rfl⟩
theorem dX7_energyFor_30 : uD 1 cX7_energyFor 30 (.aload_n 0) 31 := ⟨by decide +kernel, rfl⟩
theorem dX7_energyFor_31 : uD 3 cX7_energyFor 31 (.getfield 26) 34 := ⟨by decide +kernel, rfl⟩
theorem dX7_energyFor_34 : uD 3 cX7_energyFor 34 (.invokevirtual 253) 37 := ⟨by decide +kernel, rfl⟩
theorem dX7_energyFor_37 : uD 1 cX7_energyFor 37 (.iload_n 1) 38 := ⟨by decide +kernel, rfl⟩
theorem dX7_energyFor_38 : uD 3 cX7_energyFor 38 (.invokevirtual 284) 41 := ⟨by decide +kernel, rfl⟩
theorem dX7_energyFor_41 : uD 1 cX7_energyFor 41 (.istore_n 2) 42 := ⟨by decide +kernel, rfl⟩
theorem dX7_energyFor_42 : uD 1 cX7_energyFor 42 (.iload_n 2) 43 := ⟨by decide +kernel, rfl⟩
theorem dX7_energyFor_43 : uD 1 cX7_energyFor 43 (.iconst (-1)) 44 := ⟨by decide +kernel, rfl⟩
theorem dX7_energyFor_44 : uJ cX7_energyFor 44 (fun o => .if_icmp .ne o) 58 47 := ⟨14, by decide +kernel, by decide, rfl⟩
theorem dX7_energyFor_47 : uD 3 cX7_energyFor 47 (.new 208) 50 := ⟨by decide +kernel, rfl⟩
theorem dX7_energyFor_50 : uD 1 cX7_energyFor 50 (.dup) 51 := ⟨by decide +kernel, rfl⟩
theorem dX7_energyFor_51 : uD 3 cX7_energyFor 51 (.ldc_w 287) 54 := ⟨by decide +kernel, rfl⟩
theorem dX7_energyFor_54 : uD 3 cX7_energyFor 54 (.invokespecial 212) 57 := ⟨by decide +kernel, rfl⟩
theorem dX7_energyFor_57 : uD 1 cX7_energyFor 57 (.athrow) 58 := ⟨by decide +kernel, rfl⟩
theorem dX7_energyFor_58 : uD 1 cX7_energyFor 58 (.iload_n 2) 59 := ⟨by decide +kernel, rfl⟩
theorem dX7_energyFor_59 : uD 1 cX7_energyFor 59 (.ireturn) 60 := ⟨by decide +kernel, rfl⟩
theorem dX7_extra_0 : uD 1 cX7_extra 0 (.aload_n 0) 1 := ⟨by decide +kernel, rfl⟩
theorem dX7_extra_1 : uD 1 cX7_extra 1 (.iload_n 1) 2 := ⟨by decide +kernel, rfl⟩
theorem dX7_extra_2 : uD 3 cX7_extra 2 (.invokevirtual 186) 5 := ⟨by decide +kernel, rfl⟩
theorem dX7_extra_5 : uD 1 cX7_extra 5 (.aload_n 0) 6 := ⟨by decide +kernel, rfl⟩
theorem dX7_extra_6 : uD 3 cX7_extra 6 (.getfield 26) 9 := ⟨by decide +kernel, rfl⟩
theorem dX7_extra_9 : uD 3 cX7_extra 9 (.invokevirtual 253) 12 := ⟨by decide +kernel, rfl⟩
theorem dX7_extra_12 : uD 1 cX7_extra 12 (.istore_n 2) 13 := ⟨by decide +kernel, rfl⟩
theorem dX7_extra_13 : uD 1 cX7_extra 13 (.iload_n 2) 14 := ⟨by decide +kernel, rfl⟩
theorem dX7_extra_14 : uD 1 cX7_extra 14 (.iload_n 1) 15 := ⟨by decide +kernel, rfl⟩
theorem dX7_extra_15 : uD 1 cX7_extra 15 (.ishr) 16 := ⟨by decide +kernel, rfl⟩
theorem dX7_extra_16 : uD 1 cX7_extra 16 (.iconst 1) 17 := ⟨by decide +kernel, rfl⟩
theorem dX7_extra_17 : uD 1 cX7_extra 17 (.iand) 18 := ⟨by decide +kernel, rfl⟩
theorem dX7_extra_18 : uJ cX7_extra 18 (fun o => .ifCond .ne o) 32 21 := ⟨14, by decide +kernel, by decide, rfl⟩
theorem dX7_extra_21 : uD 3 cX7_extra 21 (.new 83) 24 := ⟨by decide +kernel, rfl⟩
theorem dX7_extra_24 : uD 1 cX7_extra 24 (.dup) 25 := ⟨by decide +kernel, rfl⟩
theorem dX7_extra_25 : uD 3 cX7_extra 25 (.ldc_w 289) 28 := ⟨by decide +kernel, rfl⟩
theorem dX7_extra_28 : uD 3 cX7_extra 28 (.invokespecial 87) 31 := ⟨by decide +kernel, rfl⟩
theorem dX7_extra_31 : uD 1 cX7_extra 31 (.athrow) 32 := ⟨by decide +kernel, rfl⟩
theorem dX7_extra_32 : uD 1 cX7_extra 32 (.aload_n 0) 33 := ⟨by decide +kernel, rfl⟩
theorem dX7_extra_33 : uD 3 cX7_extra 33 (.getfield 44) 36 := ⟨by decide +kernel, rfl⟩
theorem dX7_extra_36 : uD 1 cX7_extra 36 (.aload_n 0) 37 := ⟨by decide +kernel, rfl⟩
theorem dX7_extra_37 : uD 3 cX7_extra 37 (.getfield 26) 40 := ⟨by decide +kernel, rfl⟩
theorem dX7_extra_40 : uD 1 cX7_extra 40 (.iload_n 2) 41 := ⟨by decide +kernel, rfl⟩
theorem dX7_extra_41 : uD 1 cX7_extra 41 (.aload_n 0) 42 := ⟨by decide +kernel, rfl⟩
theorem dX7_extra_42 : uD 3 cX7_extra 42 (.getfield 26) 45 := ⟨by decide +kernel, rfl⟩
theorem dX7_extra_45 : uD 3 cX7_extra 45 (.getfield 62) 48 := ⟨by decide +kernel, rfl⟩
theorem dX7_extra_48 : uD 3 cX7_extra 48 (.getfield 68) 51 := ⟨by decide +kernel, rfl⟩
theorem dX7_extra_51 : uD 3 cX7_extra 51 (.invokevirtual 256) 54 := ⟨by decide +kernel, rfl⟩
theorem dX7_extra_54 : uD 1 cX7_extra 54 (.istore_n 3) 55 := ⟨by decide +kernel, rfl⟩
theorem dX7_extra_55 : uD 1 cX7_extra 55 (.aload_n 0) 56 := ⟨by decide +kernel, rfl⟩
theorem dX7_extra_56 : uD 3 cX7_extra 56 (.getfield 26) 59 := ⟨by decide +kernel, rfl⟩
theorem dX7_extra_59 : uD 3 cX7_extra 59 (.getfield 117) 62 := ⟨by decide +kernel, rfl⟩
theorem dX7_extra_62 : uD 1 cX7_extra 62 (.aload_n 0) 63 := ⟨by decide +kernel, rfl⟩
theorem dX7_extra_63 : uD 3 cX7_extra 63 (.getfield 26) 66 := ⟨by decide +kernel, rfl⟩
theorem dX7_extra_66 : uD 3 cX7_extra 66 (.getfield 133) 69 := ⟨by decide +kernel, rfl⟩
theorem dX7_extra_69 : uD 1 cX7_extra 69 (.iload_n 3) 70 := ⟨by decide +kernel, rfl⟩
theorem dX7_extra_70 : uD 1 cX7_extra 70 (.iconst 1) 71 := ⟨by decide +kernel, rfl⟩
theorem dX7_extra_71 : uD 1 cX7_extra 71 (.iload_n 1) 72 := ⟨by decide +kernel, rfl⟩
theorem dX7_extra_72 : uD 1 cX7_extra 72 (.ishl) 73 := ⟨by decide +kernel, rfl⟩
theorem dX7_extra_73 : uD 1 cX7_extra 73 (.ior) 74 := ⟨by decide +kernel, rfl⟩
theorem dX7_extra_74 : uD 3 cX7_extra 74 (.invokevirtual 182) 77 := ⟨by decide +kernel, rfl⟩
theorem dX7_extra_77 : uD 1 cX7_extra 77 (.aload_n 0) 78 := ⟨by decide +kernel, rfl⟩
theorem dX7_extra_78 : uD 3 cX7_extra 78 (.getfield 26) 81 := ⟨by decide +kernel, rfl⟩
theorem dX7_extra_81 : uD 3 cX7_extra 81 (.getfield 117) 84 := ⟨by decide +kernel, rfl⟩
theorem dX7_extra_84 : uD 1 cX7_extra 84 (.aload_n 0) 85 := ⟨by decide +kernel, rfl⟩
theorem dX7_extra_85 : uD 3 cX7_extra 85 (.getfield 26) 88 := ⟨by decide +kernel, rfl⟩
theorem dX7_extra_88 : uD 3 cX7_extra 88 (.getfield 133) 91 := ⟨by decide +kernel, rfl⟩
theorem dX7_extra_91 : uD 1 cX7_extra 91 (.iload_n 3) 92 := ⟨by decide +kernel, rfl⟩
theorem dX7_extra_92 : uD 3 cX7_extra 92 (.invokevirtual 182) 95 := ⟨by decide +kernel, rfl⟩
theorem dX7_extra_95 : uD 1 cX7_extra 95 (.isub) 96 := ⟨by decide +kernel, rfl⟩
theorem dX7_extra_96 : uD 1 cX7_extra 96 (.ireturn) 97 := ⟨by decide +kernel, rfl⟩
theorem dX7_minutesLeft_0 : uD 1 cX7_minutesLeft 0 (.aload_n 0) 1 := ⟨by decide +kernel, rfl⟩
theorem dX7_minutesLeft_1 : uD 3 cX7_minutesLeft 1 (.getfield 26) 4 := ⟨by decide +kernel, rfl⟩
theorem dX7_minutesLeft_4 : uD 3 cX7_minutesLeft 4 (.invokevirtual 265) 7 := ⟨by decide +kernel, rfl⟩
theorem dX7_minutesLeft_7 : uD 1 cX7_minutesLeft 7 (.istore_n 1) 8 := ⟨by decide +kernel, rfl⟩
theorem dX7_minutesLeft_8 : uD 1 cX7_minutesLeft 8 (.iload_n 1) 9 := ⟨by decide +kernel, rfl⟩
theorem dX7_minutesLeft_9 : uJ cX7_minutesLeft 9 (fun o => .ifCond .eq o) 26 12 := ⟨17, by decide +kernel, by decide, rfl⟩
theorem dX7_minutesLeft_12 : uD 1 cX7_minutesLeft 12 (.iload_n 1) 13 := ⟨by decide +kernel, rfl⟩
theorem dX7_minutesLeft_13 : uD 1 cX7_minutesLeft 13 (.aload_n 0) 14 := ⟨by decide +kernel, rfl⟩
theorem dX7_minutesLeft_14 : uD 3 cX7_minutesLeft 14 (.getfield 26) 17 := ⟨by decide +kernel, rfl⟩
theorem dX7_minutesLeft_17 : uD 3 cX7_minutesLeft 17 (.getfield 62) 20 := ⟨by decide +kernel, rfl⟩
theorem dX7_minutesLeft_20 : uD 3 cX7_minutesLeft 20 (.getfield 68) 23 := ⟨by decide +kernel, rfl⟩
theorem dX7_minutesLeft_23 : uJ cX7_minutesLeft 23 (fun o => .if_icmp .le o) 28 26 := ⟨5, by decide +kernel, by decide, rfl⟩
theorem dX7_minutesLeft_26 : uD 1 cX7_minutesLeft 26 (.iconst (-1)) 27 := ⟨by decide +kernel, rfl⟩
theorem dX7_minutesLeft_27 : uD 1 cX7_minutesLeft 27 (.ireturn) 28 := ⟨by decide +kernel, rfl⟩
theorem dX7_minutesLeft_28 : uD 1 cX7_minutesLeft 28 (.aload_n 0) 29 := ⟨by decide +kernel, rfl⟩
theorem dX7_minutesLeft_29 : uD 3 cX7_minutesLeft 29 (.getfield 51) 32 := ⟨by decide +kernel, rfl⟩
theorem dX7_minutesLeft_32 : uD 1 cX7_minutesLeft 32 (.aload_n 0) 33 := ⟨by decide +kernel, rfl⟩
theorem dX7_minutesLeft_33 : uD 3 cX7_minutesLeft 33 (.getfield 26) 36 := ⟨by decide +kernel, rfl⟩
theorem dX7_minutesLeft_36 : uD 3 cX7_minutesLeft 36 (.getfield 62) 39 := ⟨by decide +kernel, rfl⟩
theorem dX7_minutesLeft_39 : uD 3 cX7_minutesLeft 39 (.invokevirtual 291) 42 := ⟨by decide +kernel, rfl⟩
theorem dX7_minutesLeft_42 : uD 1 cX7_minutesLeft 42 (.iconst 0) 43 := ⟨by decide +kernel, rfl⟩
theorem dX7_minutesLeft_43 : uD 1 cX7_minutesLeft 43 (.istore_n 2) 44 := ⟨by decide +kernel, rfl⟩
theorem dX7_minutesLeft_44 : uD 1 cX7_minutesLeft 44 (.iload_n 2) 45 := ⟨by decide +kernel, rfl⟩
theorem dX7_minutesLeft_45 : uD 3 cX7_minutesLeft 45 (.sipush 1000) 48 := ⟨by decide +kernel, rfl⟩
theorem dX7_minutesLeft_48 : uJ cX7_minutesLeft 48 (fun o => .if_icmp .ge o) 77 51 := ⟨29, by decide +kernel, by decide, rfl⟩
theorem dX7_minutesLeft_51 : uD 1 cX7_minutesLeft 51 (.aload_n 0) 52 := ⟨by decide +kernel, rfl⟩
theorem dX7_minutesLeft_52 : uD 3 cX7_minutesLeft 52 (.getfield 51) 55 := ⟨by decide +kernel, rfl⟩
theorem dX7_minutesLeft_55 : uD 3 cX7_minutesLeft 55 (.invokevirtual 294) 58 := ⟨by decide +kernel, rfl⟩
theorem dX7_minutesLeft_58 : uD 1 cX7_minutesLeft 58 (.aload_n 0) 59 := ⟨by decide +kernel, rfl⟩
theorem dX7_minutesLeft_59 : uD 3 cX7_minutesLeft 59 (.getfield 51) 62 := ⟨by decide +kernel, rfl⟩
theorem dX7_minutesLeft_62 : uD 3 cX7_minutesLeft 62 (.getfield 68) 65 := ⟨by decide +kernel, rfl⟩
theorem dX7_minutesLeft_65 : uD 1 cX7_minutesLeft 65 (.iload_n 1) 66 := ⟨by decide +kernel, rfl⟩
theorem dX7_minutesLeft_66 : uJ cX7_minutesLeft 66 (fun o => .if_icmp .ge o) 71 69 := ⟨5, by decide +kernel, by decide, rfl⟩
theorem dX7_minutesLeft_69 : uD 1 cX7_minutesLeft 69 (.iload_n 2) 70 := ⟨by decide +kernel, rfl⟩
theorem dX7_minutesLeft_70 : uD 1 cX7_minutesLeft 70 (.ireturn) 71 := ⟨by decide +kernel, rfl⟩
theorem dX7_minutesLeft_71 : uD 3 cX7_minutesLeft 71 (.iinc 2 1) 74 := ⟨by decide +kernel, rfl⟩
theorem dX7_minutesLeft_74 : uJ cX7_minutesLeft 74 (fun o => .goto o) 44 77 := ⟨(-30), by decide +kernel, by decide, rfl⟩
theorem dX7_minutesLeft_77 : uD 1 cX7_minutesLeft 77 (.iload_n 2) 78 := ⟨by decide +kernel, rfl⟩
theorem dX7_minutesLeft_78 : uD 1 cX7_minutesLeft 78 (.ireturn) 79 := ⟨by decide +kernel, rfl⟩
theorem dX7_valueAfter_0 : uD 1 cX7_valueAfter 0 (.iload_n 1) 1 := ⟨by decide +kernel, rfl⟩
theorem dX7_valueAfter_1 : uJ cX7_valueAfter 1 (fun o => .ifCond .lt o) 11 4 := ⟨10, by decide +kernel, by decide, rfl⟩
theorem dX7_valueAfter_4 : uD 1 cX7_valueAfter 4 (.iload_n 1) 5 := ⟨by decide +kernel, rfl⟩
theorem dX7_valueAfter_5 : uD 3 cX7_valueAfter 5 (.sipush 1000) 8 := ⟨by decide +kernel, rfl⟩
theorem dX7_valueAfter_8 : uJ cX7_valueAfter 8 (fun o => .if_icmp .le o) 21 11 := ⟨13, by decide +kernel, by decide, rfl⟩
theorem dX7_valueAfter_11 : uD 3 cX7_valueAfter 11 (.new 109) 14 := ⟨by decide +kernel, rfl⟩
theorem dX7_valueAfter_14 : uD 1 cX7_valueAfter 14 (.dup) 15 := ⟨by decide +kernel, rfl⟩
theorem dX7_valueAfter_15 : uD 2 cX7_valueAfter 15 (.ldc 245) 17 := ⟨by decide +kernel, rfl⟩
theorem dX7_valueAfter_17 : uD 3 cX7_valueAfter 17 (.invokespecial 113) 20 := ⟨by decide +kernel, rfl⟩
theorem dX7_valueAfter_20 : uD 1 cX7_valueAfter 20 (.athrow) 21 := ⟨by decide +kernel, rfl⟩
theorem dX7_valueAfter_21 : uD 1 cX7_valueAfter 21 (.aload_n 0) 22 := ⟨by decide +kernel, rfl⟩
theorem dX7_valueAfter_22 : uD 3 cX7_valueAfter 22 (.getfield 51) 25 := ⟨by decide +kernel, rfl⟩
theorem dX7_valueAfter_25 : uD 1 cX7_valueAfter 25 (.aload_n 0) 26 := ⟨by decide +kernel, rfl⟩
theorem dX7_valueAfter_26 : uD 3 cX7_valueAfter 26 (.getfield 26) 29 := ⟨by decide +kernel, rfl⟩
theorem dX7_valueAfter_29 : uD 3 cX7_valueAfter 29 (.getfield 62) 32 := ⟨by decide +kernel, rfl⟩
theorem dX7_valueAfter_32 : uD 3 cX7_valueAfter 32 (.invokevirtual 291) 35 := ⟨by decide +kernel, rfl⟩
theorem dX7_valueAfter_35 : uD 1 cX7_valueAfter 35 (.iconst 0) 36 := ⟨by decide +kernel, rfl⟩
theorem dX7_valueAfter_36 : uD 1 cX7_valueAfter 36 (.istore_n 2) 37 := ⟨by decide +kernel, rfl⟩
theorem dX7_valueAfter_37 : uD 1 cX7_valueAfter 37 (.iload_n 2) 38 := ⟨by decide +kernel, rfl⟩
theorem dX7_valueAfter_38 : uD 1 cX7_valueAfter 38 (.iload_n 1) 39 := ⟨by decide +kernel, rfl⟩
theorem dX7_valueAfter_39 : uJ cX7_valueAfter 39 (fun o => .if_icmp .ge o) 55 42 := ⟨16, by decide +kernel, by decide, rfl⟩
theorem dX7_valueAfter_42 : uD 1 cX7_valueAfter 42 (.aload_n 0) 43 := ⟨by decide +kernel, rfl⟩
theorem dX7_valueAfter_43 : uD 3 cX7_valueAfter 43 (.getfield 51) 46 := ⟨by decide +kernel, rfl⟩
theorem dX7_valueAfter_46 : uD 3 cX7_valueAfter 46 (.invokevirtual 294) 49 := ⟨by decide +kernel, rfl⟩
theorem dX7_valueAfter_49 : uD 3 cX7_valueAfter 49 (.iinc 2 1) 52 := ⟨by decide +kernel, rfl⟩
theorem dX7_valueAfter_52 : uJ cX7_valueAfter 52 (fun o => .goto o) 37 55 := ⟨(-15), by decide +kernel, by decide, rfl⟩
theorem dX7_valueAfter_55 : uD 1 cX7_valueAfter 55 (.aload_n 0) 56 := ⟨by decide +kernel, rfl⟩
theorem dX7_valueAfter_56 : uD 1 cX7_valueAfter 56 (.aload_n 0) 57 := ⟨by decide +kernel, rfl⟩
theorem dX7_valueAfter_57 : uD 3 cX7_valueAfter 57 (.getfield 26) 60 := ⟨by decide +kernel, rfl⟩
theorem dX7_valueAfter_60 : uD 3 cX7_valueAfter 60 (.invokevirtual 253) 63 := ⟨by decide +kernel, rfl⟩
theorem dX7_valueAfter_63 : uD 1 cX7_valueAfter 63 (.aload_n 0) 64 := ⟨by decide +kernel, rfl⟩
theorem dX7_valueAfter_64 : uD 3 cX7_valueAfter 64 (.getfield 51) 67 := ⟨by decide +kernel, rfl⟩
theorem dX7_valueAfter_67 : uD 3 cX7_valueAfter 67 (.getfield 68) 70 := ⟨by decide +kernel, rfl⟩
theorem dX7_valueAfter_70 : uD 3 cX7_valueAfter 70 (.invokevirtual 274) 73 := ⟨by decide +kernel, rfl⟩
theorem dX7_valueAfter_73 : uD 1 cX7_valueAfter 73 (.ireturn) 74 := ⟨by decide +kernel, rfl⟩
theorem dX7_minutesToSafety_0 : uD 1 cX7_minutesToSafety 0 (.aload_n 0) 1 := ⟨by decide +kernel, rfl⟩
theorem dX7_minutesToSafety_1 : uD 3 cX7_minutesToSafety 1 (.getfield 26) 4 := ⟨by decide +kernel, rfl⟩
theorem dX7_minutesToSafety_4 : uD 3 cX7_minutesToSafety 4 (.invokevirtual 265) 7 := ⟨by decide +kernel, rfl⟩
theorem dX7_minutesToSafety_7 : uD 1 cX7_minutesToSafety 7 (.aload_n 0) 8 := ⟨by decide +kernel, rfl⟩
theorem dX7_minutesToSafety_8 : uD 3 cX7_minutesToSafety 8 (.getfield 26) 11 := ⟨by decide +kernel, rfl⟩
theorem dX7_minutesToSafety_11 : uD 3 cX7_minutesToSafety 11 (.getfield 137) 14 := ⟨by decide +kernel, rfl⟩
theorem dX7_minutesToSafety_14 : uD 3 cX7_minutesToSafety 14 (.getfield 297) 17 := ⟨by decide +kernel, rfl⟩
theorem dX7_minutesToSafety_17 : uD 1 cX7_minutesToSafety 17 (.iadd) 18 := ⟨by decide +kernel, rfl⟩
theorem dX7_minutesToSafety_18 : uD 1 cX7_minutesToSafety 18 (.istore_n 1) 19 := ⟨by decide +kernel, rfl⟩
theorem dX7_minutesToSafety_19 : uD 1 cX7_minutesToSafety 19 (.iload_n 1) 20 := ⟨by decide +kernel, rfl⟩
theorem dX7_minutesToSafety_20 : uD 1 cX7_minutesToSafety 20 (.aload_n 0) 21 := ⟨by decide +kernel, rfl⟩
theorem dX7_minutesToSafety_21 : uD 3 cX7_minutesToSafety 21 (.getfield 26) 24 := ⟨by decide +kernel, rfl⟩
theorem dX7_minutesToSafety_24 : uD 3 cX7_minutesToSafety 24 (.getfield 62) 27 := ⟨by decide +kernel, rfl⟩
theorem dX7_minutesToSafety_27 : uD 3 cX7_minutesToSafety 27 (.getfield 68) 30 := ⟨by decide +kernel, rfl⟩
theorem dX7_minutesToSafety_30 : uD 1 cX7_minutesToSafety 30 (.isub) 31 := ⟨by decide +kernel, rfl⟩
theorem dX7_minutesToSafety_31 : uD 1 cX7_minutesToSafety 31 (.istore_n 2) 32 := ⟨by decide +kernel, rfl⟩
theorem dX7_minutesToSafety_32 : uD 1 cX7_minutesToSafety 32 (.iload_n 2) 33 := ⟨by decide +kernel, rfl⟩
theorem dX7_minutesToSafety_33 : uJ cX7_minutesToSafety 33 (fun o => .ifCond .gt o) 38 36 := ⟨5, by decide +kernel, by decide, rfl⟩
theorem dX7_minutesToSafety_36 : uD 1 cX7_minutesToSafety 36 (.iconst 0) 37 := ⟨by decide +kernel, rfl⟩
theorem dX7_minutesToSafety_37 : uD 1 cX7_minutesToSafety 37 (.ireturn) 38 := ⟨by decide +kernel, rfl⟩
theorem dX7_minutesToSafety_38 : uD 1 cX7_minutesToSafety 38 (.aload_n 0) 39 := ⟨by decide +kernel, rfl⟩
theorem dX7_minutesToSafety_39 : uD 3 cX7_minutesToSafety 39 (.getfield 26) 42 := ⟨by decide +kernel, rfl⟩
theorem dX7_minutesToSafety_42 : uD 3 cX7_minutesToSafety 42 (.getfield 62) 45 := ⟨by decide +kernel, rfl⟩
theorem dX7_minutesToSafety_45 : uD 3 cX7_minutesToSafety 45 (.getfield 71) 48 := ⟨by decide +kernel, rfl⟩
theorem dX7_minutesToSafety_48 : uD 1 cX7_minutesToSafety 48 (.istore_n 3) 49 := ⟨by decide +kernel, rfl⟩
theorem dX7_minutesToSafety_49 : uD 1 cX7_minutesToSafety 49 (.iload_n 3) 50 := ⟨by decide +kernel, rfl⟩
theorem dX7_minutesToSafety_50 : uJ cX7_minutesToSafety 50 (fun o => .ifCond .le o) 67 53 := ⟨17, by decide +kernel, by decide, rfl⟩
theorem dX7_minutesToSafety_53 : uD 1 cX7_minutesToSafety 53 (.iload_n 1) 54 := ⟨by decide +kernel, rfl⟩
theorem dX7_minutesToSafety_54 : uD 1 cX7_minutesToSafety 54 (.aload_n 0) 55 := ⟨by decide +kernel, rfl⟩
theorem dX7_minutesToSafety_55 : uD 3 cX7_minutesToSafety 55 (.getfield 26) 58 := ⟨by decide +kernel, rfl⟩
theorem dX7_minutesToSafety_58 : uD 3 cX7_minutesToSafety 58 (.getfield 62) 61 := ⟨by decide +kernel, rfl⟩
theorem dX7_minutesToSafety_61 : uD 3 cX7_minutesToSafety 61 (.getfield 65) 64 := ⟨by decide +kernel, rfl⟩
theorem dX7_minutesToSafety_64 : uJ cX7_minutesToSafety 64 (fun o => .if_icmp .le o) 69 67 := ⟨5, by decide +kernel, by decide, rfl⟩
theorem dX7_minutesToSafety_67 : uD 1 cX7_minutesToSafety 67 (.iconst (-1)) 68 := ⟨by decide +kernel, rfl⟩
theorem dX7_minutesToSafety_68 : uD 1 cX7_minutesToSafety 68 (.ireturn) 69 := ⟨by decide +kernel, rfl⟩
theorem dX7_minutesToSafety_69 : uD 1 cX7_minutesToSafety 69 (.iload_n 2) 70 := ⟨by decide +kernel, rfl⟩
theorem dX7_minutesToSafety_70 : uD 1 cX7_minutesToSafety 70 (.iload_n 3) 71 := ⟨by decide +kernel, rfl⟩
theorem dX7_minutesToSafety_71 : uD 1 cX7_minutesToSafety 71 (.iadd) 72 := ⟨by decide +kernel, rfl⟩
theorem dX7_minutesToSafety_72 : uD 1 cX7_minutesToSafety 72 (.iconst 1) 73 := ⟨by decide +kernel, rfl⟩
theorem dX7_minutesToSafety_73 : uD 1 cX7_minutesToSafety 73 (.isub) 74 := ⟨by decide +kernel, rfl⟩
theorem dX7_minutesToSafety_74 : uD 1 cX7_minutesToSafety 74 (.iload_n 3) 75 := ⟨by decide +kernel, rfl⟩
theorem dX7_minutesToSafety_75 : uD 1 cX7_minutesToSafety 75 (.idiv) 76 := ⟨by decide +kernel, rfl⟩
theorem dX7_minutesToSafety_76 : uD 1 cX7_minutesToSafety 76 (.ireturn) 77 := ⟨by decide +kernel, rfl⟩
theorem dX7_gainOfRepair_0 : uD 1 cX7_gainOfRepair 0 (.aload_n 0) 1 := ⟨by decide +kernel, rfl⟩
theorem dX7_gainOfRepair_1 : uD 1 cX7_gainOfRepair 1 (.iload_n 1) 2 := ⟨by decide +kernel, rfl⟩
theorem dX7_gainOfRepair_2 : uD 3 cX7_gainOfRepair 2 (.invokevirtual 154) 5 := ⟨by decide +kernel, rfl⟩
theorem dX7_gainOfRepair_5 : uD 1 cX7_gainOfRepair 5 (.aload_n 0) 6 := ⟨by decide +kernel, rfl⟩
theorem dX7_gainOfRepair_6 : uD 3 cX7_gainOfRepair 6 (.getfield 26) 9 := ⟨by decide +kernel, rfl⟩
theorem dX7_gainOfRepair_9 : uD 3 cX7_gainOfRepair 9 (.getfield 117) 12 := ⟨by decide +kernel, rfl⟩
theorem dX7_gainOfRepair_12 : uD 3 cX7_gainOfRepair 12 (.getfield 171) 15 := ⟨by decide +kernel, rfl⟩
theorem dX7_gainOfRepair_15 : uD 1 cX7_gainOfRepair 15 (.iload_n 1) 16 := ⟨by decide +kernel, rfl⟩
theorem dX7_gainOfRepair_16 : uD 1 cX7_gainOfRepair 16 (.baload) 17 := ⟨by decide +kernel, rfl⟩
theorem dX7_gainOfRepair_17 : uJ cX7_gainOfRepair 17 (fun o => .ifCond .ne o) 22 20 := ⟨5, by decide +kernel, by decide, rfl⟩
theorem dX7_gainOfRepair_20 : uD 1 cX7_gainOfRepair 20 (.iconst 0) 21 := ⟨by decide +kernel, rfl⟩
theorem dX7_gainOfRepair_21 : uD 1 cX7_gainOfRepair 21 (.ireturn) 22 := ⟨by decide +kernel, rfl⟩
theorem dX7_gainOfRepair_22 : uD 1 cX7_gainOfRepair 22 (.aload_n 0) 23 := ⟨by decide +kernel, rfl⟩
theorem dX7_gainOfRepair_23 : uD 3 cX7_gainOfRepair 23 (.getfield 26) 26 := ⟨by decide +kernel, rfl⟩
theorem dX7_gainOfRepair_26 : uD 3 cX7_gainOfRepair 26 (.invokevirtual 253) 29 := ⟨by decide +kernel, rfl⟩
theorem dX7_gainOfRepair_29 : uD 1 cX7_gainOfRepair 29 (.istore_n 2) 30 := ⟨by decide +kernel, rfl⟩
theorem dX7_gainOfRepair_30 : uD 1 cX7_gainOfRepair 30 (.iload_n 2) 31 := ⟨by decide +kernel, rfl⟩
theorem dX7_gainOfRepair_31 : uD 1 cX7_gainOfRepair 31 (.aload_n 0) 32 := ⟨by decide +kernel, rfl⟩
theorem dX7_gainOfRepair_32 : uD 3 cX7_gainOfRepair 32 (.getfield 26) 35 := ⟨by decide +kernel, rfl⟩
theorem dX7_gainOfRepair_35 : uD 3 cX7_gainOfRepair 35 (.getfield 133) 38 := ⟨by decide +kernel, rfl⟩
theorem dX7_gainOfRepair_38 : uD 1 cX7_gainOfRepair 38 (.iload_n 1) 39 := ⟨by decide +kernel, rfl⟩
theorem dX7_gainOfRepair_39 : uD 3 cX7_gainOfRepair 39 (.invokevirtual 157) 42 := ⟨by decide +kernel, rfl⟩
theorem dX7_gainOfRepair_42 : uD 1 cX7_gainOfRepair 42 (.ior) 43 := ⟨by decide +kernel, rfl⟩
theorem dX7_gainOfRepair_43 : uD 1 cX7_gainOfRepair 43 (.istore_n 3) 44 := ⟨by decide +kernel, rfl⟩
theorem dX7_gainOfRepair_44 : uD 1 cX7_gainOfRepair 44 (.aload_n 0) 45 := ⟨by decide +kernel, rfl⟩
theorem dX7_gainOfRepair_45 : uD 1 cX7_gainOfRepair 45 (.iload_n 3) 46 := ⟨by decide +kernel, rfl⟩
theorem dX7_gainOfRepair_46 : uD 1 cX7_gainOfRepair 46 (.aload_n 0) 47 := ⟨by decide +kernel, rfl⟩
theorem dX7_gainOfRepair_47 : uD 3 cX7_gainOfRepair 47 (.getfield 26) 50 := ⟨by decide +kernel, rfl⟩
theorem dX7_gainOfRepair_50 : uD 3 cX7_gainOfRepair 50 (.getfield 62) 53 := ⟨by decide +kernel, rfl⟩
theorem dX7_gainOfRepair_53 : uD 3 cX7_gainOfRepair 53 (.getfield 68) 56 := ⟨by decide +kernel, rfl⟩
theorem dX7_gainOfRepair_56 : uD 3 cX7_gainOfRepair 56 (.invokevirtual 274) 59 := ⟨by decide +kernel, rfl⟩
theorem dX7_gainOfRepair_59 : uD 1 cX7_gainOfRepair 59 (.aload_n 0) 60 := ⟨by decide +kernel, rfl⟩
theorem dX7_gainOfRepair_60 : uD 1 cX7_gainOfRepair 60 (.iload_n 2) 61 := ⟨by decide +kernel, rfl⟩
theorem dX7_gainOfRepair_61 : uD 1 cX7_gainOfRepair 61 (.aload_n 0) 62 := ⟨by decide +kernel, rfl⟩
theorem dX7_gainOfRepair_62 : uD 3 cX7_gainOfRepair 62 (.getfield 26) 65 := ⟨by decide +kernel, rfl⟩
theorem dX7_gainOfRepair_65 : uD 3 cX7_gainOfRepair 65 (.getfield 62) 68 := ⟨by decide +kernel, rfl⟩
theorem dX7_gainOfRepair_68 : uD 3 cX7_gainOfRepair 68 (.getfield 68) 71 := ⟨by decide +kernel, rfl⟩
theorem dX7_gainOfRepair_71 : uD 3 cX7_gainOfRepair 71 (.invokevirtual 274) 74 := ⟨by decide +kernel, rfl⟩
theorem dX7_gainOfRepair_74 : uD 1 cX7_gainOfRepair 74 (.isub) 75 := ⟨by decide +kernel, rfl⟩
theorem dX7_gainOfRepair_75 : uD 1 cX7_gainOfRepair 75 (.ireturn) 76 := ⟨by decide +kernel, rfl⟩
theorem dX7_costliest_0 : uD 1 cX7_costliest 0 (.iconst (-1)) 1 := ⟨by decide +kernel, rfl⟩
theorem dX7_costliest_1 : uD 1 cX7_costliest 1 (.istore_n 1) 2 := ⟨by decide +kernel, rfl⟩
theorem dX7_costliest_2 : uD 1 cX7_costliest 2 (.iconst 0) 3 := ⟨by decide +kernel, rfl⟩
theorem dX7_costliest_3 : uD 1 cX7_costliest 3 (.istore_n 2) 4 := ⟨by decide +kernel, rfl⟩
theorem dX7_costliest_4 : uD 1 cX7_costliest 4 (.iconst 1) 5 := ⟨by decide +kernel, rfl⟩
theorem dX7_costliest_5 : uD 1 cX7_costliest 5 (.istore_n 3) 6 := ⟨by decide +kernel, rfl⟩
theorem dX7_costliest_6 : uD 1 cX7_costliest 6 (.iconst 0) 7 := ⟨by decide +kernel, rfl⟩
theorem dX7_costliest_7 : uD 2 cX7_costliest 7 (.istore 4) 9 := ⟨by decide +kernel, rfl⟩
theorem dX7_costliest_9 : uD 2 cX7_costliest 9 (.iload 4) 11 := ⟨by decide +kernel, rfl⟩
theorem dX7_costliest_11 : uD 1 cX7_costliest 11 (.aload_n 0) 12 := ⟨by decide +kernel, rfl⟩
theorem dX7_costliest_12 : uD 3 cX7_costliest 12 (.getfield 26) 15 := ⟨by decide +kernel, rfl⟩
theorem dX7_costliest_15 : uD 3 cX7_costliest 15 (.getfield 117) 18 := ⟨by decide +kernel, rfl⟩
theorem dX7_costliest_18 : uD 3 cX7_costliest 18 (.getfield 121) 21 := ⟨by decide +kernel, rfl⟩
theorem dX7_costliest_21 : uJ cX7_costliest 21 (fun o => .if_icmp .ge o) 123 24 := ⟨102, by decide +kernel, by decide, rfl⟩
theorem dX7_costliest_24 : uD 1 cX7_costliest 24 (.aload_n 0) 25 := ⟨by decide +kernel, rfl⟩
theorem dX7_costliest_25 : uD 3 cX7_costliest 25 (.getfield 26) 28 := ⟨by decide +kernel, rfl⟩
theorem dX7_costliest_28 : uD 3 cX7_costliest 28 (.getfield 133) 31 := ⟨by decide +kernel, rfl⟩
theorem dX7_costliest_31 : uD 2 cX7_costliest 31 (.iload 4) 33 := ⟨by decide +kernel, rfl⟩
theorem dX7_costliest_33 : uD 3 cX7_costliest 33 (.invokevirtual 157) 36 := ⟨by decide +kernel, rfl⟩
theorem dX7_costliest_36 : uD 2 cX7_costliest 36 (.istore 5) 38 := ⟨by decide +kernel, rfl⟩
theorem dX7_costliest_38 : uD 2 cX7_costliest 38 (.iload 5) 40 := ⟨by decide +kernel, rfl⟩
theorem dX7_costliest_40 : uJ cX7_costliest 40 (fun o => .ifCond .eq o) 117 43 := ⟨77, by decide +kernel, by decide, rfl⟩
theorem dX7_costliest_43 : uD 1 cX7_costliest 43 (.aload_n 0) 44 := ⟨by decide +kernel, rfl⟩
theorem dX7_costliest_44 : uD 3 cX7_costliest 44 (.getfield 26) 47 := ⟨by decide +kernel, rfl⟩
theorem dX7_costliest_47 : uD 3 cX7_costliest 47 (.getfield 117) 50 := ⟨by decide +kernel, rfl⟩
theorem dX7_costliest_50 : uD 3 cX7_costliest 50 (.getfield 171) 53 := ⟨by decide +kernel, rfl⟩
theorem dX7_costliest_53 : uD 2 cX7_costliest 53 (.iload 4) 55 := ⟨by decide +kernel, rfl⟩
theorem dX7_costliest_55 : uD 1 cX7_costliest 55 (.baload) 56 := ⟨by decide +kernel, rfl⟩
theorem dX7_costliest_56 : uJ cX7_costliest 56 (fun o => .ifCond .eq o) 62 59 := ⟨6, by decide +kernel, by decide, rfl⟩
theorem dX7_costliest_59 : uJ cX7_costliest 59 (fun o => .goto o) 117 62 := ⟨58, by decide +kernel, by decide, rfl⟩
theorem dX7_costliest_62 : uD 1 cX7_costliest 62 (.aload_n 0) 63 := ⟨by decide +kernel, rfl⟩
theorem dX7_costliest_63 : uD 3 cX7_costliest 63 (.getfield 26) 66 := ⟨by decide +kernel, rfl⟩
theorem dX7_costliest_66 : uD 3 cX7_costliest 66 (.getfield 117) 69 := ⟨by decide +kernel, rfl⟩
theorem dX7_costliest_69 : uD 1 cX7_costliest 69 (.aload_n 0) 70 := ⟨by decide +kernel, rfl⟩
theorem dX7_costliest_70 : uD 3 cX7_costliest 70 (.getfield 26) 73 := ⟨by decide +kernel, rfl⟩
theorem dX7_costliest_73 : uD 3 cX7_costliest 73 (.getfield 133) 76 := ⟨by decide +kernel, rfl⟩
theorem dX7_costliest_76 : uD 2 cX7_costliest 76 (.iload 5) 78 := ⟨by decide +kernel, rfl⟩
theorem dX7_costliest_78 : uD 3 cX7_costliest 78 (.invokevirtual 182) 81 := ⟨by decide +kernel, rfl⟩
theorem dX7_costliest_81 : uD 2 cX7_costliest 81 (.istore 6) 83 := ⟨by decide +kernel, rfl⟩
theorem dX7_costliest_83 : uD 1 cX7_costliest 83 (.aload_n 0) 84 := ⟨by decide +kernel, rfl⟩
theorem dX7_costliest_84 : uD 3 cX7_costliest 84 (.getfield 26) 87 := ⟨by decide +kernel, rfl⟩
theorem dX7_costliest_87 : uD 3 cX7_costliest 87 (.getfield 133) 90 := ⟨by decide +kernel, rfl⟩
theorem dX7_costliest_90 : uD 2 cX7_costliest 90 (.iload 5) 92 := ⟨by decide +kernel, rfl⟩
theorem dX7_costliest_92 : uD 3 cX7_costliest 92 (.invokevirtual 179) 95 := ⟨by decide +kernel, rfl⟩
theorem dX7_costliest_95 : uD 2 cX7_costliest 95 (.istore 7) 97 := ⟨by decide +kernel, rfl⟩
theorem dX7_costliest_97 : uD 2 cX7_costliest 97 (.iload 6) 99 := ⟨by decide +kernel, rfl⟩
theorem dX7_costliest_99 : uD 1 cX7_costliest 99 (.iload_n 3) 100 := ⟨by decide +kernel, rfl⟩
theorem dX7_costliest_100 : uD 1 cX7_costliest 100 (.imul) 101 := ⟨by decide +kernel, rfl⟩
theorem dX7_costliest_101 : uD 1 cX7_costliest 101 (.iload_n 2) 102 := ⟨by decide +kernel, rfl⟩
theorem dX7_costliest_102 : uD 2 cX7_costliest 102 (.iload 7) 104 := ⟨by decide +kernel, rfl⟩
theorem dX7_costliest_104 : uD 1 cX7_costliest 104 (.imul) 105 := ⟨by decide +kernel, rfl⟩
theorem dX7_costliest_105 : uJ cX7_costliest 105 (fun o => .if_icmp .le o) 117 108 := ⟨12, by decide +kernel, by decide, rfl⟩
theorem dX7_costliest_108 : uD 2 cX7_costliest 108 (.iload 4) 110 := ⟨by decide +kernel, rfl⟩
theorem dX7_costliest_110 : uD 1 cX7_costliest 110 (.istore_n 1) 111 := ⟨by decide +kernel, rfl⟩
theorem dX7_costliest_111 : uD 2 cX7_costliest 111 (.iload 6) 113 := ⟨by decide +kernel, rfl⟩
theorem dX7_costliest_113 : uD 1 cX7_costliest 113 (.istore_n 2) 114 := ⟨by decide +kernel, rfl⟩
theorem dX7_costliest_114 : uD 2 cX7_costliest 114 (.iload 7) 116 := ⟨by decide +kernel, rfl⟩
theorem dX7_costliest_116 : uD 1 cX7_costliest 116 (.istore_n 3) 117 := ⟨by decide +kernel, rfl⟩
theorem dX7_costliest_117 : uD 3 cX7_costliest 117 (.iinc 4 1) 120 := ⟨by decide +kernel, rfl⟩
theorem dX7_costliest_120 : uJ cX7_costliest 120 (fun o => .goto o) 9 123 := ⟨(-111), by decide +kernel, by decide, rfl⟩
theorem dX7_costliest_123 : uD 1 cX7_costliest 123 (.iload_n 1) 124 := ⟨by decide +kernel, rfl⟩
theorem dX7_costliest_124 : uD 1 cX7_costliest 124 (.iconst (-1)) 125 := ⟨by decide +kernel, rfl⟩
theorem dX7_costliest_125 : uJ cX7_costliest 125 (fun o => .if_icmp .ne o) 139 128 := ⟨14, by decide +kernel, by decide, rfl⟩
theorem dX7_costliest_128 : uD 3 cX7_costliest 128 (.new 208) 131 := ⟨by decide +kernel, rfl⟩
theorem dX7_costliest_131 : uD 1 cX7_costliest 131 (.dup) 132 := ⟨by decide +kernel, rfl⟩
theorem dX7_costliest_132 : uD 3 cX7_costliest 132 (.ldc_w 300) 135 := ⟨by decide +kernel, rfl⟩
theorem dX7_costliest_135 : uD 3 cX7_costliest 135 (.invokespecial 212) 138 := ⟨by decide +kernel, rfl⟩
theorem dX7_costliest_138 : uD 1 cX7_costliest 138 (.athrow) 139 := ⟨by decide +kernel, rfl⟩
theorem dX7_costliest_139 : uD 1 cX7_costliest 139 (.iload_n 1) 140 := ⟨by decide +kernel, rfl⟩
theorem dX7_costliest_140 : uD 1 cX7_costliest 140 (.ireturn) 141 := ⟨by decide +kernel, rfl⟩
theorem dX7_save_0 : uD 1 cX7_save 0 (.aload_n 0) 1 := ⟨by decide +kernel, rfl⟩
theorem dX7_save_1 : uD 1 cX7_save 1 (.iload_n 1) 2 := ⟨by decide +kernel, rfl⟩
theorem dX7_save_2 : uD 3 cX7_save 2 (.invokevirtual 302) 5 := ⟨by decide +kernel, rfl⟩
theorem dX7_save_5 : uD 1 cX7_save 5 (.aload_n 0) 6 := ⟨by decide +kernel, rfl⟩
theorem dX7_save_6 : uD 3 cX7_save 6 (.getfield 33) 9 := ⟨by decide +kernel, rfl⟩
theorem dX7_save_9 : uD 1 cX7_save 9 (.iload_n 1) 10 := ⟨by decide +kernel, rfl⟩
theorem dX7_save_10 : uD 1 cX7_save 10 (.aaload) 11 := ⟨by decide +kernel, rfl⟩
theorem dX7_save_11 : uD 1 cX7_save 11 (.aload_n 0) 12 := ⟨by decide +kernel, rfl⟩
theorem dX7_save_12 : uD 3 cX7_save 12 (.getfield 26) 15 := ⟨by decide +kernel, rfl⟩
theorem dX7_save_15 : uD 3 cX7_save 15 (.invokevirtual 114) 18 := ⟨by decide +kernel, rfl⟩
theorem dX7_save_18 : uD 1 cX7_save 18 (.aload_n 0) 19 := ⟨by decide +kernel, rfl⟩
theorem dX7_save_19 : uD 3 cX7_save 19 (.getfield 37) 22 := ⟨by decide +kernel, rfl⟩
theorem dX7_save_22 : uD 1 cX7_save 22 (.iload_n 1) 23 := ⟨by decide +kernel, rfl⟩
theorem dX7_save_23 : uD 1 cX7_save 23 (.iconst 1) 24 := ⟨by decide +kernel, rfl⟩
theorem dX7_save_24 : uD 1 cX7_save 24 (.bastore) 25 := ⟨by decide +kernel, rfl⟩
theorem dX7_save_25 : uD 1 cX7_save 25 (.return_) 26 := ⟨by decide +kernel, rfl⟩
theorem dX7_restore_0 : uD 1 cX7_restore 0 (.aload_n 0) 1 := ⟨by decide +kernel, rfl⟩
theorem dX7_restore_1 : uD 1 cX7_restore 1 (.iload_n 1) 2 := ⟨by decide +kernel, rfl⟩
theorem dX7_restore_2 : uD 3 cX7_restore 2 (.invokevirtual 302) 5 := ⟨by decide +kernel, rfl⟩
theorem dX7_restore_5 : uD 1 cX7_restore 5 (.aload_n 0) 6 := ⟨by decide +kernel, rfl⟩
theorem dX7_restore_6 : uD 3 cX7_restore 6 (.getfield 37) 9 := ⟨by decide +kernel, rfl⟩
theorem dX7_restore_9 : uD 1 cX7_restore 9 (.iload_n 1) 10 := ⟨by decide +kernel, rfl⟩
theorem dX7_restore_10 : uD 1 cX7_restore 10 (.baload) 11 := ⟨by decide +kernel, rfl⟩
theorem dX7_restore_11 : uJ cX7_restore 11 (fun o => .ifCond .ne o) 25 14 := ⟨14, by decide +kernel, by decide, rfl⟩
theorem dX7_restore_14 : uD 3 cX7_restore 14 (.new 208) 17 := ⟨by decide +kernel, rfl⟩
theorem dX7_restore_17 : uD 1 cX7_restore 17 (.dup) 18 := ⟨by decide +kernel, rfl⟩
theorem dX7_restore_18 : uD 3 cX7_restore 18 (.ldc_w 305) 21 := ⟨by decide +kernel, rfl⟩
theorem dX7_restore_21 : uD 3 cX7_restore 21 (.invokespecial 212) 24 := ⟨by decide +kernel, rfl⟩
theorem dX7_restore_24 : uD 1 cX7_restore 24 (.athrow) 25 := ⟨by decide +kernel, rfl⟩
theorem dX7_restore_25 : uD 1 cX7_restore 25 (.aload_n 0) 26 := ⟨by decide +kernel, rfl⟩
theorem dX7_restore_26 : uD 3 cX7_restore 26 (.getfield 26) 29 := ⟨by decide +kernel, rfl⟩
theorem dX7_restore_29 : uD 1 cX7_restore 29 (.aload_n 0) 30 := ⟨by decide +kernel, rfl⟩
theorem dX7_restore_30 : uD 3 cX7_restore 30 (.getfield 33) 33 := ⟨by decide +kernel, rfl⟩
theorem dX7_restore_33 : uD 1 cX7_restore 33 (.iload_n 1) 34 := ⟨by decide +kernel, rfl⟩
theorem dX7_restore_34 : uD 1 cX7_restore 34 (.aaload) 35 := ⟨by decide +kernel, rfl⟩
theorem dX7_restore_35 : uD 3 cX7_restore 35 (.invokevirtual 114) 38 := ⟨by decide +kernel, rfl⟩
theorem dX7_restore_38 : uD 1 cX7_restore 38 (.return_) 39 := ⟨by decide +kernel, rfl⟩
theorem dX7_requireDevice_0 : uD 1 cX7_requireDevice 0 (.iload_n 1) 1 := ⟨by decide +kernel, rfl⟩
theorem dX7_requireDevice_1 : uJ cX7_requireDevice 1 (fun o => .ifCond .lt o) 18 4 := ⟨17, by decide +kernel, by decide, rfl⟩
theorem dX7_requireDevice_4 : uD 1 cX7_requireDevice 4 (.iload_n 1) 5 := ⟨by decide +kernel, rfl⟩
theorem dX7_requireDevice_5 : uD 1 cX7_requireDevice 5 (.aload_n 0) 6 := ⟨by decide +kernel, rfl⟩
theorem dX7_requireDevice_6 : uD 3 cX7_requireDevice 6 (.getfield 26) 9 := ⟨by decide +kernel, rfl⟩
theorem dX7_requireDevice_9 : uD 3 cX7_requireDevice 9 (.getfield 117) 12 := ⟨by decide +kernel, rfl⟩
theorem dX7_requireDevice_12 : uD 3 cX7_requireDevice 12 (.getfield 121) 15 := ⟨by decide +kernel, rfl⟩
theorem dX7_requireDevice_15 : uJ cX7_requireDevice 15 (fun o => .if_icmp .lt o) 29 18 := ⟨14, by decide +kernel, by decide, rfl⟩
theorem dX7_requireDevice_18 : uD 3 cX7_requireDevice 18 (.new 94) 21 := ⟨by decide +kernel, rfl⟩
theorem dX7_requireDevice_21 : uD 1 cX7_requireDevice 21 (.dup) 22 := ⟨by decide +kernel, rfl⟩
theorem dX7_requireDevice_22 : uD 3 cX7_requireDevice 22 (.ldc_w 307) 25 := ⟨by decide +kernel, rfl⟩
theorem dX7_requireDevice_25 : uD 3 cX7_requireDevice 25 (.invokespecial 98) 28 := ⟨by decide +kernel, rfl⟩
theorem dX7_requireDevice_28 : uD 1 cX7_requireDevice 28 (.athrow) 29 := ⟨by decide +kernel, rfl⟩
theorem dX7_requireDevice_29 : uD 1 cX7_requireDevice 29 (.return_) 30 := ⟨by decide +kernel, rfl⟩
theorem dX7_requireAddress_0 : uD 1 cX7_requireAddress 0 (.iload_n 1) 1 := ⟨by decide +kernel, rfl⟩
theorem dX7_requireAddress_1 : uJ cX7_requireAddress 1 (fun o => .ifCond .lt o) 10 4 := ⟨9, by decide +kernel, by decide, rfl⟩
theorem dX7_requireAddress_4 : uD 1 cX7_requireAddress 4 (.iload_n 1) 5 := ⟨by decide +kernel, rfl⟩
theorem dX7_requireAddress_5 : uD 2 cX7_requireAddress 5 (.bipush 100) 7 := ⟨by decide +kernel, rfl⟩
theorem dX7_requireAddress_7 : uJ cX7_requireAddress 7 (fun o => .if_icmp .lt o) 21 10 := ⟨14, by decide +kernel, by decide, rfl⟩
theorem dX7_requireAddress_10 : uD 3 cX7_requireAddress 10 (.new 94) 13 := ⟨by decide +kernel, rfl⟩
theorem dX7_requireAddress_13 : uD 1 cX7_requireAddress 13 (.dup) 14 := ⟨by decide +kernel, rfl⟩
theorem dX7_requireAddress_14 : uD 3 cX7_requireAddress 14 (.ldc_w 309) 17 := ⟨by decide +kernel, rfl⟩
theorem dX7_requireAddress_17 : uD 3 cX7_requireAddress 17 (.invokespecial 98) 20 := ⟨by decide +kernel, rfl⟩
theorem dX7_requireAddress_20 : uD 1 cX7_requireAddress 20 (.athrow) 21 := ⟨by decide +kernel, rfl⟩
theorem dX7_requireAddress_21 : uD 1 cX7_requireAddress 21 (.return_) 22 := ⟨by decide +kernel, rfl⟩
theorem dX7_requireBlock_0 : uD 1 cX7_requireBlock 0 (.iload_n 1) 1 := ⟨by decide +kernel, rfl⟩
theorem dX7_requireBlock_1 : uJ cX7_requireBlock 1 (fun o => .ifCond .lt o) 18 4 := ⟨17, by decide +kernel, by decide, rfl⟩
theorem dX7_requireBlock_4 : uD 1 cX7_requireBlock 4 (.iload_n 1) 5 := ⟨by decide +kernel, rfl⟩
theorem dX7_requireBlock_5 : uD 1 cX7_requireBlock 5 (.aload_n 0) 6 := ⟨by decide +kernel, rfl⟩
theorem dX7_requireBlock_6 : uD 3 cX7_requireBlock 6 (.getfield 26) 9 := ⟨by decide +kernel, rfl⟩
theorem dX7_requireBlock_9 : uD 3 cX7_requireBlock 9 (.getfield 133) 12 := ⟨by decide +kernel, rfl⟩
theorem dX7_requireBlock_12 : uD 3 cX7_requireBlock 12 (.getfield 136) 15 := ⟨by decide +kernel, rfl⟩
theorem dX7_requireBlock_15 : uJ cX7_requireBlock 15 (fun o => .if_icmp .lt o) 29 18 := ⟨14, by decide +kernel, by decide, rfl⟩
theorem dX7_requireBlock_18 : uD 3 cX7_requireBlock 18 (.new 94) 21 := ⟨by decide +kernel, rfl⟩
theorem dX7_requireBlock_21 : uD 1 cX7_requireBlock 21 (.dup) 22 := ⟨by decide +kernel, rfl⟩
theorem dX7_requireBlock_22 : uD 3 cX7_requireBlock 22 (.ldc_w 311) 25 := ⟨by decide +kernel, rfl⟩
theorem dX7_requireBlock_25 : uD 3 cX7_requireBlock 25 (.invokespecial 98) 28 := ⟨by decide +kernel, rfl⟩
theorem dX7_requireBlock_28 : uD 1 cX7_requireBlock 28 (.athrow) 29 := ⟨by decide +kernel, rfl⟩
theorem dX7_requireBlock_29 : uD 1 cX7_requireBlock 29 (.return_) 30 := ⟨by decide +kernel, rfl⟩
theorem dX7_requireSlot_0 : uD 1 cX7_requireSlot 0 (.iload_n 1) 1 := ⟨by decide +kernel, rfl⟩
theorem dX7_requireSlot_1 : uJ cX7_requireSlot 1 (fun o => .ifCond .lt o) 9 4 := ⟨8, by decide +kernel, by decide, rfl⟩
theorem dX7_requireSlot_4 : uD 1 cX7_requireSlot 4 (.iload_n 1) 5 := ⟨by decide +kernel, rfl⟩
theorem dX7_requireSlot_5 : uD 1 cX7_requireSlot 5 (.iconst 2) 6 := ⟨by decide +kernel, rfl⟩
theorem dX7_requireSlot_6 : uJ cX7_requireSlot 6 (fun o => .if_icmp .lt o) 20 9 := ⟨14, by decide +kernel, by decide, rfl⟩
theorem dX7_requireSlot_9 : uD 3 cX7_requireSlot 9 (.new 94) 12 := ⟨by decide +kernel, rfl⟩
theorem dX7_requireSlot_12 : uD 1 cX7_requireSlot 12 (.dup) 13 := ⟨by decide +kernel, rfl⟩
theorem dX7_requireSlot_13 : uD 3 cX7_requireSlot 13 (.ldc_w 313) 16 := ⟨by decide +kernel, rfl⟩
theorem dX7_requireSlot_16 : uD 3 cX7_requireSlot 16 (.invokespecial 98) 19 := ⟨by decide +kernel, rfl⟩
theorem dX7_requireSlot_19 : uD 1 cX7_requireSlot 19 (.athrow) 20 := ⟨by decide +kernel, rfl⟩
theorem dX7_requireSlot_20 : uD 1 cX7_requireSlot 20 (.return_) 21 := ⟨by decide +kernel, rfl⟩
theorem dX7_requireSet_0 : uD 1 cX7_requireSet 0 (.iload_n 1) 1 := ⟨by decide +kernel, rfl⟩
theorem dX7_requireSet_1 : uD 1 cX7_requireSet 1 (.aload_n 0) 2 := ⟨by decide +kernel, rfl⟩
theorem dX7_requireSet_2 : uD 3 cX7_requireSet 2 (.getfield 26) 5 := ⟨by decide +kernel, rfl⟩
theorem dX7_requireSet_5 : uD 3 cX7_requireSet 5 (.getfield 133) 8 := ⟨by decide +kernel, rfl⟩
theorem dX7_requireSet_8 : uD 3 cX7_requireSet 8 (.invokevirtual 315) 11 := ⟨by decide +kernel, rfl⟩
theorem dX7_requireSet_11 : uD 1 cX7_requireSet 11 (.iconst (-1)) 12 := ⟨by decide +kernel, rfl⟩
theorem dX7_requireSet_12 : uD 1 cX7_requireSet 12 (.ixor) 13 := ⟨by decide +kernel, rfl⟩
theorem dX7_requireSet_13 : uD 1 cX7_requireSet 13 (.iand) 14 := ⟨by decide +kernel, rfl⟩
theorem dX7_requireSet_14 : uJ cX7_requireSet 14 (fun o => .ifCond .eq o) 28 17 := ⟨14, by decide +kernel, by decide, rfl⟩
theorem dX7_requireSet_17 : uD 3 cX7_requireSet 17 (.new 109) 20 := ⟨by decide +kernel, rfl⟩
theorem dX7_requireSet_20 : uD 1 cX7_requireSet 20 (.dup) 21 := ⟨by decide +kernel, rfl⟩
theorem dX7_requireSet_21 : uD 3 cX7_requireSet 21 (.ldc_w 318) 24 := ⟨by decide +kernel, rfl⟩
theorem dX7_requireSet_24 : uD 3 cX7_requireSet 24 (.invokespecial 113) 27 := ⟨by decide +kernel, rfl⟩
theorem dX7_requireSet_27 : uD 1 cX7_requireSet 27 (.athrow) 28 := ⟨by decide +kernel, rfl⟩
theorem dX7_requireSet_28 : uD 1 cX7_requireSet 28 (.return_) 29 := ⟨by decide +kernel, rfl⟩
theorem dX7_requireEnergy_0 : uD 1 cX7_requireEnergy 0 (.iload_n 1) 1 := ⟨by decide +kernel, rfl⟩
theorem dX7_requireEnergy_1 : uJ cX7_requireEnergy 1 (fun o => .ifCond .lt o) 11 4 := ⟨10, by decide +kernel, by decide, rfl⟩
theorem dX7_requireEnergy_4 : uD 1 cX7_requireEnergy 4 (.iload_n 1) 5 := ⟨by decide +kernel, rfl⟩
theorem dX7_requireEnergy_5 : uD 3 cX7_requireEnergy 5 (.sipush 500) 8 := ⟨by decide +kernel, rfl⟩
theorem dX7_requireEnergy_8 : uJ cX7_requireEnergy 8 (fun o => .if_icmp .le o) 22 11 := ⟨14, by decide +kernel, by decide, rfl⟩
theorem dX7_requireEnergy_11 : uD 3 cX7_requireEnergy 11 (.new 109) 14 := ⟨by decide +kernel, rfl⟩
theorem dX7_requireEnergy_14 : uD 1 cX7_requireEnergy 14 (.dup) 15 := ⟨by decide +kernel, rfl⟩
theorem dX7_requireEnergy_15 : uD 3 cX7_requireEnergy 15 (.ldc_w 320) 18 := ⟨by decide +kernel, rfl⟩
theorem dX7_requireEnergy_18 : uD 3 cX7_requireEnergy 18 (.invokespecial 113) 21 := ⟨by decide +kernel, rfl⟩
theorem dX7_requireEnergy_21 : uD 1 cX7_requireEnergy 21 (.athrow) 22 := ⟨by decide +kernel, rfl⟩
theorem dX7_requireEnergy_22 : uD 1 cX7_requireEnergy 22 (.return_) 23 := ⟨by decide +kernel, rfl⟩
theorem dX7_requireWritable_0 : uD 1 cX7_requireWritable 0 (.aload_n 0) 1 := ⟨by decide +kernel, rfl⟩
theorem dX7_requireWritable_1 : uD 1 cX7_requireWritable 1 (.iload_n 1) 2 := ⟨by decide +kernel, rfl⟩
theorem dX7_requireWritable_2 : uD 3 cX7_requireWritable 2 (.invokevirtual 154) 5 := ⟨by decide +kernel, rfl⟩
theorem dX7_requireWritable_5 : uD 1 cX7_requireWritable 5 (.aload_n 0) 6 := ⟨by decide +kernel, rfl⟩
theorem dX7_requireWritable_6 : uD 1 cX7_requireWritable 6 (.iload_n 2) 7 := ⟨by decide +kernel, rfl⟩
theorem dX7_requireWritable_7 : uD 3 cX7_requireWritable 7 (.invokevirtual 201) 10 := ⟨by decide +kernel, rfl⟩
theorem dX7_requireWritable_10 : uD 1 cX7_requireWritable 10 (.iload_n 3) 11 := ⟨by decide +kernel, rfl⟩
theorem dX7_requireWritable_11 : uD 1 cX7_requireWritable 11 (.iconst 1) 12 := ⟨by decide +kernel, rfl⟩
theorem dX7_requireWritable_12 : uJ cX7_requireWritable 12 (fun o => .if_icmp .lt o) 21 15 := ⟨9, by decide +kernel, by decide, rfl⟩
theorem dX7_requireWritable_15 : uD 1 cX7_requireWritable 15 (.iload_n 3) 16 := ⟨by decide +kernel, rfl⟩
theorem dX7_requireWritable_16 : uD 2 cX7_requireWritable 16 (.bipush 99) 18 := ⟨by decide +kernel, rfl⟩
theorem dX7_requireWritable_18 : uJ cX7_requireWritable 18 (fun o => .if_icmp .le o) 32 21 := ⟨14, by decide +kernel, by decide, rfl⟩
theorem dX7_requireWritable_21 : uD 3 cX7_requireWritable 21 (.new 109) 24 := ⟨by decide +kernel, rfl⟩
theorem dX7_requireWritable_24 : uD 1 cX7_requireWritable 24 (.dup) 25 := ⟨by decide +kernel, rfl⟩
theorem dX7_requireWritable_25 : uD 3 cX7_requireWritable 25 (.ldc_w 282) 28 := ⟨by decide +kernel, rfl⟩
theorem dX7_requireWritable_28 : uD 3 cX7_requireWritable 28 (.invokespecial 113) 31 := ⟨by decide +kernel, rfl⟩
theorem dX7_requireWritable_31 : uD 1 cX7_requireWritable 31 (.athrow) 32 := ⟨by decide +kernel, rfl⟩
theorem dX7_requireWritable_32 : uD 1 cX7_requireWritable 32 (.aload_n 0) 33 := ⟨by decide +kernel, rfl⟩
theorem dX7_requireWritable_33 : uD 3 cX7_requireWritable 33 (.getfield 26) 36 := ⟨by decide +kernel, rfl⟩
theorem dX7_requireWritable_36 : uD 3 cX7_requireWritable 36 (.getfield 129) 39 := ⟨by decide +kernel, rfl⟩
theorem dX7_requireWritable_39 : uJ cX7_requireWritable 39 (fun o => .ifCond .eq o) 57 42 := ⟨18, by decide +kernel, by decide, rfl⟩
theorem dX7_requireWritable_42 : uD 1 cX7_requireWritable 42 (.aload_n 0) 43 := ⟨by decide +kernel, rfl⟩
theorem dX7_requireWritable_43 : uD 3 cX7_requireWritable 43 (.getfield 26) 46 := ⟨by decide +kernel, rfl⟩
theorem dX7_requireWritable_46 : uD 3 cX7_requireWritable 46 (.getfield 117) 49 := ⟨by decide +kernel, rfl⟩
theorem dX7_requireWritable_49 : uD 3 cX7_requireWritable 49 (.getfield 171) 52 := ⟨by decide +kernel, rfl⟩
theorem dX7_requireWritable_52 : uD 1 cX7_requireWritable 52 (.iload_n 1) 53 := ⟨by decide +kernel, rfl⟩
theorem dX7_requireWritable_53 : uD 1 cX7_requireWritable 53 (.baload) 54 := ⟨by decide +kernel, rfl⟩
theorem dX7_requireWritable_54 : uJ cX7_requireWritable 54 (fun o => .ifCond .eq o) 68 57 := ⟨14, by decide +kernel, by decide, rfl⟩
theorem dX7_requireWritable_57 : uD 3 cX7_requireWritable 57 (.new 83) 60 := ⟨by decide +kernel, rfl⟩
theorem dX7_requireWritable_60 : uD 1 cX7_requireWritable 60 (.dup) 61 := ⟨by decide +kernel, rfl⟩
theorem dX7_requireWritable_61 : uD 3 cX7_requireWritable 61 (.ldc_w 322) 64 := ⟨by decide +kernel, rfl⟩
theorem dX7_requireWritable_64 : uD 3 cX7_requireWritable 64 (.invokespecial 87) 67 := ⟨by decide +kernel, rfl⟩
theorem dX7_requireWritable_67 : uD 1 cX7_requireWritable 67 (.athrow) 68 := ⟨by decide +kernel, rfl⟩
theorem dX7_requireWritable_68 : uD 1 cX7_requireWritable 68 (.return_) 69 := ⟨by decide +kernel, rfl⟩
theorem dX7_isAllowed_0 : uD 1 cX7_isAllowed 0 (.aload_n 0) 1 := ⟨by decide +kernel, rfl⟩
theorem dX7_isAllowed_1 : uD 3 cX7_isAllowed 1 (.getfield 26) 4 := ⟨by decide +kernel, rfl⟩
theorem dX7_isAllowed_4 : uD 3 cX7_isAllowed 4 (.getfield 137) 7 := ⟨by decide +kernel, rfl⟩
theorem dX7_isAllowed_7 : uD 3 cX7_isAllowed 7 (.getfield 141) 10 := ⟨by decide +kernel, rfl⟩
theorem dX7_isAllowed_10 : uD 1 cX7_isAllowed 10 (.iconst 2) 11 := ⟨by decide +kernel, rfl⟩
theorem dX7_isAllowed_11 : uJ cX7_isAllowed 11 (fun o => .if_icmp .ne o) 16 14 := ⟨5, by decide +kernel, by decide, rfl⟩
theorem dX7_isAllowed_14 : uD 1 cX7_isAllowed 14 (.iconst 0) 15 := ⟨by decide +kernel, rfl⟩
theorem dX7_isAllowed_15 : uD 1 cX7_isAllowed 15 (.ireturn) 16 := ⟨by decide +kernel, rfl⟩
theorem dX7_isAllowed_16 : uD 1 cX7_isAllowed 16 (.aload_n 0) 17 := ⟨by decide +kernel, rfl⟩
theorem dX7_isAllowed_17 : uD 3 cX7_isAllowed 17 (.getfield 26) 20 := ⟨by decide +kernel, rfl⟩
theorem dX7_isAllowed_20 : uD 3 cX7_isAllowed 20 (.getfield 133) 23 := ⟨by decide +kernel, rfl⟩
theorem dX7_isAllowed_23 : uD 1 cX7_isAllowed 23 (.iload_n 1) 24 := ⟨by decide +kernel, rfl⟩
theorem dX7_isAllowed_24 : uD 1 cX7_isAllowed 24 (.iload_n 2) 25 := ⟨by decide +kernel, rfl⟩
theorem dX7_isAllowed_25 : uD 3 cX7_isAllowed 25 (.invokevirtual 204) 28 := ⟨by decide +kernel, rfl⟩
theorem dX7_isAllowed_28 : uD 1 cX7_isAllowed 28 (.iconst (-1)) 29 := ⟨by decide +kernel, rfl⟩
theorem dX7_isAllowed_29 : uJ cX7_isAllowed 29 (fun o => .if_icmp .eq o) 36 32 := ⟨7, by decide +kernel, by decide, rfl⟩
theorem dX7_isAllowed_32 : uD 1 cX7_isAllowed 32 (.iconst 1) 33 := ⟨by decide +kernel, rfl⟩
theorem dX7_isAllowed_33 : uJ cX7_isAllowed 33 (fun o => .goto o) 37 36 := ⟨4, by decide +kernel, by decide, rfl⟩
theorem dX7_isAllowed_36 : uD 1 cX7_isAllowed 36 (.iconst 0) 37 := ⟨by decide +kernel, rfl⟩
theorem dX7_isAllowed_37 : uD 2 cX7_isAllowed 37 (.istore 4) 39 := ⟨by decide +kernel, rfl⟩
theorem dX7_isAllowed_39 : uD 2 cX7_isAllowed 39 (.iload 4) 41 := ⟨by decide +kernel, rfl⟩
theorem dX7_isAllowed_41 : uJ cX7_isAllowed 41 (fun o => .ifCond .ne o) 69 44 := ⟨28, by decide +kernel, by decide, rfl⟩
theorem dX7_isAllowed_44 : uD 1 cX7_isAllowed 44 (.aload_n 0) 45 := ⟨by decide +kernel, rfl⟩
theorem dX7_isAllowed_45 : uD 3 cX7_isAllowed 45 (.getfield 26) 48 := ⟨by decide +kernel, rfl⟩
theorem dX7_isAllowed_48 : uD 3 cX7_isAllowed 48 (.getfield 133) 51 := ⟨by decide +kernel, rfl⟩
theorem dX7_isAllowed_51 : uD 3 cX7_isAllowed 51 (.getfield 136) 54 := ⟨by decide +kernel, rfl⟩
theorem dX7_isAllowed_54 : uD 1 cX7_isAllowed 54 (.aload_n 0) 55 := ⟨by decide +kernel, rfl⟩
theorem dX7_isAllowed_55 : uD 3 cX7_isAllowed 55 (.getfield 26) 58 := ⟨by decide +kernel, rfl⟩
theorem dX7_isAllowed_58 : uD 3 cX7_isAllowed 58 (.getfield 137) 61 := ⟨by decide +kernel, rfl⟩
theorem dX7_isAllowed_61 : uD 3 cX7_isAllowed 61 (.getfield 324) 64 := ⟨by decide +kernel, rfl⟩
theorem dX7_isAllowed_64 : uJ cX7_isAllowed 64 (fun o => .if_icmp .lt o) 69 67 := ⟨5, by decide +kernel, by decide, rfl⟩
theorem dX7_isAllowed_67 : uD 1 cX7_isAllowed 67 (.iconst 0) 68 := ⟨by decide +kernel, rfl⟩
theorem dX7_isAllowed_68 : uD 1 cX7_isAllowed 68 (.ireturn) 69 := ⟨by decide +kernel, rfl⟩
theorem dX7_isAllowed_69 : uD 1 cX7_isAllowed 69 (.aload_n 0) 70 := ⟨by decide +kernel, rfl⟩
theorem dX7_isAllowed_70 : uD 3 cX7_isAllowed 70 (.getfield 58) 73 := ⟨by decide +kernel, rfl⟩
theorem dX7_isAllowed_73 : uD 1 cX7_isAllowed 73 (.aload_n 0) 74 := ⟨by decide +kernel, rfl⟩
theorem dX7_isAllowed_74 : uD 3 cX7_isAllowed 74 (.getfield 26) 77 := ⟨by decide +kernel, rfl⟩
theorem dX7_isAllowed_77 : uD 3 cX7_isAllowed 77 (.getfield 133) 80 := ⟨by decide +kernel, rfl⟩
theorem dX7_isAllowed_80 : uD 3 cX7_isAllowed 80 (.invokevirtual 327) 83 := ⟨by decide +kernel, rfl⟩
theorem dX7_isAllowed_83 : uD 1 cX7_isAllowed 83 (.aload_n 0) 84 := ⟨by decide +kernel, rfl⟩
theorem dX7_isAllowed_84 : uD 3 cX7_isAllowed 84 (.getfield 58) 87 := ⟨by decide +kernel, rfl⟩
theorem dX7_isAllowed_87 : uD 1 cX7_isAllowed 87 (.iload_n 1) 88 := ⟨by decide +kernel, rfl⟩
theorem dX7_isAllowed_88 : uD 1 cX7_isAllowed 88 (.iload_n 2) 89 := ⟨by decide +kernel, rfl⟩
theorem dX7_isAllowed_89 : uD 1 cX7_isAllowed 89 (.iload_n 3) 90 := ⟨by decide +kernel, rfl⟩
theorem dX7_isAllowed_90 : uD 1 cX7_isAllowed 90 (.aload_n 0) 91 := ⟨by decide +kernel, rfl⟩
theorem dX7_isAllowed_91 : uD 3 cX7_isAllowed 91 (.getfield 26) 94 := ⟨by decide +kernel, rfl⟩
theorem dX7_isAllowed_94 : uD 3 cX7_isAllowed 94 (.getfield 126) 97 := ⟨by decide +kernel, rfl⟩
theorem dX7_isAllowed_97 : uD 3 cX7_isAllowed 97 (.invokevirtual 228) 100 := ⟨by decide +kernel, rfl⟩
theorem dX7_isAllowed_100 : uD 1 cX7_isAllowed 100 (.iconst 0) 101 := ⟨by decide +kernel, rfl⟩
theorem dX7_isAllowed_101 : uD 2 cX7_isAllowed 101 (.istore 5) 103 := ⟨by decide +kernel, rfl⟩
theorem dX7_isAllowed_103 : uD 1 cX7_isAllowed 103 (.iconst 0) 104 := ⟨by decide +kernel, rfl⟩
theorem dX7_isAllowed_104 : uD 2 cX7_isAllowed 104 (.istore 6) 106 := ⟨by decide +kernel, rfl⟩
theorem dX7_isAllowed_106 : uD 2 cX7_isAllowed 106 (.iload 6) 108 := ⟨by decide +kernel, rfl⟩
theorem dX7_isAllowed_108 : uD 1 cX7_isAllowed 108 (.aload_n 0) 109 := ⟨by decide +kernel, rfl⟩
theorem dX7_isAllowed_109 : uD 3 cX7_isAllowed 109 (.getfield 58) 112 := ⟨by decide +kernel, rfl⟩
theorem dX7_isAllowed_112 : uD 3 cX7_isAllowed 112 (.getfield 136) 115 := ⟨by decide +kernel, rfl⟩
theorem dX7_isAllowed_115 : uJ cX7_isAllowed 115 (fun o => .if_icmp .ge o) 160 118 := ⟨45, by decide +kernel, by decide, rfl⟩
theorem dX7_isAllowed_118 : uD 1 cX7_isAllowed 118 (.aload_n 0) 119 := ⟨by decide +kernel, rfl⟩
theorem dX7_isAllowed_119 : uD 1 cX7_isAllowed 119 (.aload_n 0) 120 := ⟨by decide +kernel, rfl⟩
theorem dX7_isAllowed_120 : uD 3 cX7_isAllowed 120 (.getfield 58) 123 := ⟨by decide +kernel, rfl⟩
theorem dX7_isAllowed_123 : uD 3 cX7_isAllowed 123 (.getfield 189) 126 := ⟨by decide +kernel, rfl⟩
theorem dX7_isAllowed_126 : uD 2 cX7_isAllowed 126 (.iload 6) 128 := ⟨by decide +kernel, rfl⟩
theorem dX7_isAllowed_128 : uD 1 cX7_isAllowed 128 (.iaload) 129 := ⟨by decide +kernel, rfl⟩
theorem dX7_isAllowed_129 : uD 1 cX7_isAllowed 129 (.aload_n 0) 130 := ⟨by decide +kernel, rfl⟩
theorem dX7_isAllowed_130 : uD 3 cX7_isAllowed 130 (.getfield 58) 133 := ⟨by decide +kernel, rfl⟩
theorem dX7_isAllowed_133 : uD 3 cX7_isAllowed 133 (.getfield 195) 136 := ⟨by decide +kernel, rfl⟩
theorem dX7_isAllowed_136 : uD 2 cX7_isAllowed 136 (.iload 6) 138 := ⟨by decide +kernel, rfl⟩
theorem dX7_isAllowed_138 : uD 1 cX7_isAllowed 138 (.iaload) 139 := ⟨by decide +kernel, rfl⟩
theorem dX7_isAllowed_139 : uD 3 cX7_isAllowed 139 (.invokevirtual 330) 142 := ⟨by decide +kernel, rfl⟩
theorem dX7_isAllowed_142 : uJ cX7_isAllowed 142 (fun o => .ifCond .eq o) 154 145 := ⟨12, by decide +kernel, by decide, rfl⟩
theorem dX7_isAllowed_145 : uD 2 cX7_isAllowed 145 (.iload 5) 147 := ⟨by decide +kernel, rfl⟩
theorem dX7_isAllowed_147 : uD 1 cX7_isAllowed 147 (.iconst 1) 148 := ⟨by decide +kernel, rfl⟩
theorem dX7_isAllowed_148 : uD 2 cX7_isAllowed 148 (.iload 6) 150 := ⟨by decide +kernel, rfl⟩
theorem dX7_isAllowed_150 : uD 1 cX7_isAllowed 150 (.ishl) 151 := ⟨by decide +kernel, rfl⟩
theorem dX7_isAllowed_151 : uD 1 cX7_isAllowed 151 (.ior) 152 := ⟨by decide +kernel, rfl⟩
theorem dX7_isAllowed_152 : uD 2 cX7_isAllowed 152 (.istore 5) 154 := ⟨by decide +kernel, rfl⟩
theorem dX7_isAllowed_154 : uD 3 cX7_isAllowed 154 (.iinc 6 1) 157 := ⟨by decide +kernel, rfl⟩
theorem dX7_isAllowed_157 : uJ cX7_isAllowed 157 (fun o => .goto o) 106 160 := ⟨(-51), by decide +kernel, by decide, rfl⟩
theorem dX7_isAllowed_160 : uD 1 cX7_isAllowed 160 (.aload_n 0) 161 := ⟨by decide +kernel, rfl⟩
theorem dX7_isAllowed_161 : uD 3 cX7_isAllowed 161 (.getfield 26) 164 := ⟨by decide +kernel, rfl⟩
theorem dX7_isAllowed_164 : uD 3 cX7_isAllowed 164 (.getfield 117) 167 := ⟨by decide +kernel, rfl⟩
theorem dX7_isAllowed_167 : uD 1 cX7_isAllowed 167 (.aload_n 0) 168 := ⟨by decide +kernel, rfl⟩
theorem dX7_isAllowed_168 : uD 3 cX7_isAllowed 168 (.getfield 58) 171 := ⟨by decide +kernel, rfl⟩
theorem dX7_isAllowed_171 : uD 2 cX7_isAllowed 171 (.iload 5) 173 := ⟨by decide +kernel, rfl⟩
theorem dX7_isAllowed_173 : uD 3 cX7_isAllowed 173 (.invokevirtual 182) 176 := ⟨by decide +kernel, rfl⟩
theorem dX7_isAllowed_176 : uD 1 cX7_isAllowed 176 (.aload_n 0) 177 := ⟨by decide +kernel, rfl⟩
theorem dX7_isAllowed_177 : uD 3 cX7_isAllowed 177 (.getfield 26) 180 := ⟨by decide +kernel, rfl⟩
theorem dX7_isAllowed_180 : uD 3 cX7_isAllowed 180 (.getfield 62) 183 := ⟨by decide +kernel, rfl⟩
theorem dX7_isAllowed_183 : uD 3 cX7_isAllowed 183 (.getfield 68) 186 := ⟨by decide +kernel, rfl⟩
theorem dX7_isAllowed_186 : uD 1 cX7_isAllowed 186 (.aload_n 0) 187 := ⟨by decide +kernel, rfl⟩
theorem dX7_isAllowed_187 : uD 3 cX7_isAllowed 187 (.getfield 26) 190 := ⟨by decide +kernel, rfl⟩
theorem dX7_isAllowed_190 : uD 3 cX7_isAllowed 190 (.getfield 137) 193 := ⟨by decide +kernel, rfl⟩
theorem dX7_isAllowed_193 : uD 3 cX7_isAllowed 193 (.getfield 297) 196 := ⟨by decide +kernel, rfl⟩
theorem dX7_isAllowed_196 : uD 1 cX7_isAllowed 196 (.isub) 197 := ⟨by decide +kernel, rfl⟩
theorem dX7_isAllowed_197 : uJ cX7_isAllowed 197 (fun o => .if_icmp .gt o) 204 200 := ⟨7, by decide +kernel, by decide, rfl⟩
theorem dX7_isAllowed_200 : uD 1 cX7_isAllowed 200 (.iconst 1) 201 := ⟨by decide +kernel, rfl⟩
theorem dX7_isAllowed_201 : uJ cX7_isAllowed 201 (fun o => .goto o) 205 204 := ⟨4, by decide +kernel, by decide, rfl⟩
theorem dX7_isAllowed_204 : uD 1 cX7_isAllowed 204 (.iconst 0) 205 := ⟨by decide +kernel, rfl⟩
theorem dX7_isAllowed_205 : uD 1 cX7_isAllowed 205 (.ireturn) 206 := ⟨by decide +kernel, rfl⟩
theorem dX7_isGuarded_0 : uD 1 cX7_isGuarded 0 (.aload_n 0) 1 := ⟨by decide +kernel, rfl⟩
theorem dX7_isGuarded_1 : uD 3 cX7_isGuarded 1 (.getfield 26) 4 := ⟨by decide +kernel, rfl⟩
theorem dX7_isGuarded_4 : uD 3 cX7_isGuarded 4 (.getfield 117) 7 := ⟨by decide +kernel, rfl⟩
theorem dX7_isGuarded_7 : uD 3 cX7_isGuarded 7 (.getfield 171) 10 := ⟨by decide +kernel, rfl⟩
theorem dX7_isGuarded_10 : uD 1 cX7_isGuarded 10 (.iload_n 1) 11 := ⟨by decide +kernel, rfl⟩
theorem dX7_isGuarded_11 : uD 1 cX7_isGuarded 11 (.baload) 12 := ⟨by decide +kernel, rfl⟩
theorem dX7_isGuarded_12 : uJ cX7_isGuarded 12 (fun o => .ifCond .ne o) 47 15 := ⟨35, by decide +kernel, by decide, rfl⟩
theorem dX7_isGuarded_15 : uD 1 cX7_isGuarded 15 (.aload_n 0) 16 := ⟨by decide +kernel, rfl⟩
theorem dX7_isGuarded_16 : uD 3 cX7_isGuarded 16 (.getfield 26) 19 := ⟨by decide +kernel, rfl⟩
theorem dX7_isGuarded_19 : uD 3 cX7_isGuarded 19 (.getfield 137) 22 := ⟨by decide +kernel, rfl⟩
theorem dX7_isGuarded_22 : uD 3 cX7_isGuarded 22 (.getfield 141) 25 := ⟨by decide +kernel, rfl⟩
theorem dX7_isGuarded_25 : uD 1 cX7_isGuarded 25 (.iconst 1) 26 := ⟨by decide +kernel, rfl⟩
theorem dX7_isGuarded_26 : uJ cX7_isGuarded 26 (fun o => .if_icmp .ne o) 43 29 := ⟨17, by decide +kernel, by decide, rfl⟩
theorem dX7_isGuarded_29 : uD 1 cX7_isGuarded 29 (.iload_n 2) 30 := ⟨by decide +kernel, rfl⟩
theorem dX7_isGuarded_30 : uD 1 cX7_isGuarded 30 (.aload_n 0) 31 := ⟨by decide +kernel, rfl⟩
theorem dX7_isGuarded_31 : uD 3 cX7_isGuarded 31 (.getfield 26) 34 := ⟨by decide +kernel, rfl⟩
theorem dX7_isGuarded_34 : uD 3 cX7_isGuarded 34 (.getfield 137) 37 := ⟨by decide +kernel, rfl⟩
theorem dX7_isGuarded_37 : uD 3 cX7_isGuarded 37 (.getfield 146) 40 := ⟨by decide +kernel, rfl⟩
theorem dX7_isGuarded_40 : uJ cX7_isGuarded 40 (fun o => .if_icmp .lt o) 47 43 := ⟨7, by decide +kernel, by decide, rfl⟩
theorem dX7_isGuarded_43 : uD 1 cX7_isGuarded 43 (.iconst 1) 44 := ⟨by decide +kernel, rfl⟩
theorem dX7_isGuarded_44 : uJ cX7_isGuarded 44 (fun o => .goto o) 48 47 := ⟨4, by decide +kernel, by decide, rfl⟩
theorem dX7_isGuarded_47 : uD 1 cX7_isGuarded 47 (.iconst 0) 48 := ⟨by decide +kernel, rfl⟩
theorem dX7_isGuarded_48 : uD 1 cX7_isGuarded 48 (.ireturn) 49 := ⟨by decide +kernel, rfl⟩
theorem dX7_flushSet_0 : uD 1 cX7_flushSet 0 (.aload_n 0) 1 := ⟨by decide +kernel, rfl⟩
theorem dX7_flushSet_1 : uD 3 cX7_flushSet 1 (.getfield 26) 4 := ⟨by decide +kernel, rfl⟩
theorem dX7_flushSet_4 : uD 3 cX7_flushSet 4 (.getfield 133) 7 := ⟨by decide +kernel, rfl⟩
theorem dX7_flushSet_7 : uD 1 cX7_flushSet 7 (.iload_n 1) 8 := ⟨by decide +kernel, rfl⟩
theorem dX7_flushSet_8 : uD 3 cX7_flushSet 8 (.invokevirtual 179) 11 := ⟨by decide +kernel, rfl⟩
theorem dX7_flushSet_11 : uD 1 cX7_flushSet 11 (.istore_n 2) 12 := ⟨by decide +kernel, rfl⟩
theorem dX7_flushSet_12 : uD 1 cX7_flushSet 12 (.aload_n 0) 13 := ⟨by decide +kernel, rfl⟩
theorem dX7_flushSet_13 : uD 3 cX7_flushSet 13 (.getfield 26) 16 := ⟨by decide +kernel, rfl⟩
theorem dX7_flushSet_16 : uD 3 cX7_flushSet 16 (.getfield 62) 19 := ⟨by decide +kernel, rfl⟩
theorem dX7_flushSet_19 : uD 1 cX7_flushSet 19 (.aload_n 0) 20 := ⟨by decide +kernel, rfl⟩
theorem dX7_flushSet_20 : uD 3 cX7_flushSet 20 (.getfield 26) 23 := ⟨by decide +kernel, rfl⟩
theorem dX7_flushSet_23 : uD 3 cX7_flushSet 23 (.getfield 117) 26 := ⟨by decide +kernel, rfl⟩
theorem dX7_flushSet_26 : uD 1 cX7_flushSet 26 (.aload_n 0) 27 := ⟨by decide +kernel, rfl⟩
theorem dX7_flushSet_27 : uD 3 cX7_flushSet 27 (.getfield 26) 30 := ⟨by decide +kernel, rfl⟩
theorem dX7_flushSet_30 : uD 3 cX7_flushSet 30 (.getfield 133) 33 := ⟨by decide +kernel, rfl⟩
theorem dX7_flushSet_33 : uD 1 cX7_flushSet 33 (.iload_n 1) 34 := ⟨by decide +kernel, rfl⟩
theorem dX7_flushSet_34 : uD 3 cX7_flushSet 34 (.invokevirtual 182) 37 := ⟨by decide +kernel, rfl⟩
theorem dX7_flushSet_37 : uD 3 cX7_flushSet 37 (.invokevirtual 334) 40 := ⟨by decide +kernel, rfl⟩
theorem dX7_flushSet_40 : uD 1 cX7_flushSet 40 (.aload_n 0) 41 := ⟨by decide +kernel, rfl⟩
theorem dX7_flushSet_41 : uD 3 cX7_flushSet 41 (.getfield 26) 44 := ⟨by decide +kernel, rfl⟩
theorem dX7_flushSet_44 : uD 3 cX7_flushSet 44 (.getfield 133) 47 := ⟨by decide +kernel, rfl⟩
theorem dX7_flushSet_47 : uD 1 cX7_flushSet 47 (.iload_n 1) 48 := ⟨by decide +kernel, rfl⟩
theorem dX7_flushSet_48 : uD 3 cX7_flushSet 48 (.invokevirtual 238) 51 := ⟨by decide +kernel, rfl⟩
theorem dX7_flushSet_51 : uD 1 cX7_flushSet 51 (.aload_n 0) 52 := ⟨by decide +kernel, rfl⟩
theorem dX7_flushSet_52 : uD 3 cX7_flushSet 52 (.getfield 26) 55 := ⟨by decide +kernel, rfl⟩
theorem dX7_flushSet_55 : uD 3 cX7_flushSet 55 (.getfield 217) 58 := ⟨by decide +kernel, rfl⟩
theorem dX7_flushSet_58 : uD 1 cX7_flushSet 58 (.iconst 2) 59 := ⟨by decide +kernel, rfl⟩
theorem dX7_flushSet_59 : uD 1 cX7_flushSet 59 (.dup2) 60 := ⟨by decide +kernel, rfl⟩
theorem dX7_flushSet_60 : uD 1 cX7_flushSet 60 (.iaload) 61 := ⟨by decide +kernel, rfl⟩
theorem dX7_flushSet_61 : uD 1 cX7_flushSet 61 (.iload_n 1) 62 := ⟨by decide +kernel, rfl⟩
theorem dX7_flushSet_62 : uD 3 cX7_flushSet 62 (.invokestatic 174) 65 := ⟨by decide +kernel, rfl⟩
theorem dX7_flushSet_65 : uD 1 cX7_flushSet 65 (.iadd) 66 := ⟨by decide +kernel, rfl⟩
theorem dX7_flushSet_66 : uD 1 cX7_flushSet 66 (.iastore) 67 := ⟨by decide +kernel, rfl⟩
theorem dX7_flushSet_67 : uD 1 cX7_flushSet 67 (.aload_n 0) 68 := ⟨by decide +kernel, rfl⟩
theorem dX7_flushSet_68 : uD 3 cX7_flushSet 68 (.getfield 26) 71 := ⟨by decide +kernel, rfl⟩
theorem dX7_flushSet_71 : uD 3 cX7_flushSet 71 (.getfield 217) 74 := ⟨by decide +kernel, rfl⟩
theorem dX7_flushSet_74 : uD 1 cX7_flushSet 74 (.iconst 4) 75 := ⟨by decide +kernel, rfl⟩
theorem dX7_flushSet_75 : uD 1 cX7_flushSet 75 (.dup2) 76 := ⟨by decide +kernel, rfl⟩
theorem dX7_flushSet_76 : uD 1 cX7_flushSet 76 (.iaload) 77 := ⟨by decide +kernel, rfl⟩
theorem dX7_flushSet_77 : uD 1 cX7_flushSet 77 (.iload_n 2) 78 := ⟨by decide +kernel, rfl⟩
theorem dX7_flushSet_78 : uD 1 cX7_flushSet 78 (.iadd) 79 := ⟨by decide +kernel, rfl⟩
theorem dX7_flushSet_79 : uD 1 cX7_flushSet 79 (.iastore) 80 := ⟨by decide +kernel, rfl⟩
theorem dX7_flushSet_80 : uD 1 cX7_flushSet 80 (.iload_n 2) 81 := ⟨by decide +kernel, rfl⟩
theorem dX7_flushSet_81 : uD 1 cX7_flushSet 81 (.ireturn) 82 := ⟨by decide +kernel, rfl⟩
theorem dX7_valueFor_0 : uD 1 cX7_valueFor 0 (.aload_n 0) 1 := ⟨by decide +kernel, rfl⟩
theorem dX7_valueFor_1 : uD 3 cX7_valueFor 1 (.getfield 26) 4 := ⟨by decide +kernel, rfl⟩
theorem dX7_valueFor_4 : uD 3 cX7_valueFor 4 (.getfield 133) 7 := ⟨by decide +kernel, rfl⟩
theorem dX7_valueFor_7 : uD 1 cX7_valueFor 7 (.aload_n 0) 8 := ⟨by decide +kernel, rfl⟩
theorem dX7_valueFor_8 : uD 3 cX7_valueFor 8 (.getfield 44) 11 := ⟨by decide +kernel, rfl⟩
theorem dX7_valueFor_11 : uD 1 cX7_valueFor 11 (.aload_n 0) 12 := ⟨by decide +kernel, rfl⟩
theorem dX7_valueFor_12 : uD 3 cX7_valueFor 12 (.getfield 26) 15 := ⟨by decide +kernel, rfl⟩
theorem dX7_valueFor_15 : uD 1 cX7_valueFor 15 (.iload_n 1) 16 := ⟨by decide +kernel, rfl⟩
theorem dX7_valueFor_16 : uD 1 cX7_valueFor 16 (.iload_n 2) 17 := ⟨by decide +kernel, rfl⟩
theorem dX7_valueFor_17 : uD 3 cX7_valueFor 17 (.invokevirtual 256) 20 := ⟨by decide +kernel, rfl⟩
theorem dX7_valueFor_20 : uD 3 cX7_valueFor 20 (.invokevirtual 179) 23 := ⟨by decide +kernel, rfl⟩
theorem dX7_valueFor_23 : uD 1 cX7_valueFor 23 (.ireturn) 24 := ⟨by decide +kernel, rfl⟩
theorem dX7_greedyBlocks_0 : uD 1 cX7_greedyBlocks 0 (.aload_n 0) 1 := ⟨by decide +kernel, rfl⟩
theorem dX7_greedyBlocks_1 : uD 3 cX7_greedyBlocks 1 (.getfield 26) 4 := ⟨by decide +kernel, rfl⟩
theorem dX7_greedyBlocks_4 : uD 3 cX7_greedyBlocks 4 (.invokevirtual 253) 7 := ⟨by decide +kernel, rfl⟩
theorem dX7_greedyBlocks_7 : uD 1 cX7_greedyBlocks 7 (.istore_n 2) 8 := ⟨by decide +kernel, rfl⟩
theorem dX7_greedyBlocks_8 : uD 1 cX7_greedyBlocks 8 (.iconst 0) 9 := ⟨by decide +kernel, rfl⟩
theorem dX7_greedyBlocks_9 : uD 1 cX7_greedyBlocks 9 (.istore_n 3) 10 := ⟨by decide +kernel, rfl⟩
theorem dX7_greedyBlocks_10 : uD 1 cX7_greedyBlocks 10 (.iconst 0) 11 := ⟨by decide +kernel, rfl⟩
theorem dX7_greedyBlocks_11 : uD 2 cX7_greedyBlocks 11 (.istore 4) 13 := ⟨by decide +kernel, rfl⟩
theorem dX7_greedyBlocks_13 : uD 2 cX7_greedyBlocks 13 (.iload 4) 15 := ⟨by decide +kernel, rfl⟩
theorem dX7_greedyBlocks_15 : uD 2 cX7_greedyBlocks 15 (.bipush 24) 17 := ⟨by decide +kernel, rfl⟩
theorem dX7_greedyBlocks_17 : uJ cX7_greedyBlocks 17 (fun o => .if_icmp .ge o) 82 20 := ⟨65, by decide +kernel, by decide, rfl⟩
theorem dX7_greedyBlocks_20 : uD 1 cX7_greedyBlocks 20 (.iload_n 2) 21 := ⟨by decide +kernel, rfl⟩
theorem dX7_greedyBlocks_21 : uJ cX7_greedyBlocks 21 (fun o => .ifCond .eq o) 82 24 := ⟨61, by decide +kernel, by decide, rfl⟩
theorem dX7_greedyBlocks_24 : uD 1 cX7_greedyBlocks 24 (.iconst 1) 25 := ⟨by decide +kernel, rfl⟩
theorem dX7_greedyBlocks_25 : uD 1 cX7_greedyBlocks 25 (.aload_n 0) 26 := ⟨by decide +kernel, rfl⟩
theorem dX7_greedyBlocks_26 : uD 3 cX7_greedyBlocks 26 (.getfield 26) 29 := ⟨by decide +kernel, rfl⟩
theorem dX7_greedyBlocks_29 : uD 3 cX7_greedyBlocks 29 (.getfield 133) 32 := ⟨by decide +kernel, rfl⟩
theorem dX7_greedyBlocks_32 : uD 1 cX7_greedyBlocks 32 (.iload_n 2) 33 := ⟨by decide +kernel, rfl⟩
theorem dX7_greedyBlocks_33 : uD 3 cX7_greedyBlocks 33 (.invokevirtual 337) 36 := ⟨by decide +kernel, rfl⟩
theorem dX7_greedyBlocks_36 : uD 1 cX7_greedyBlocks 36 (.ishl) 37 := ⟨by decide +kernel, rfl⟩
theorem dX7_greedyBlocks_37 : uD 2 cX7_greedyBlocks 37 (.istore 5) 39 := ⟨by decide +kernel, rfl⟩
theorem dX7_greedyBlocks_39 : uD 1 cX7_greedyBlocks 39 (.iload_n 2) 40 := ⟨by decide +kernel, rfl⟩
theorem dX7_greedyBlocks_40 : uD 2 cX7_greedyBlocks 40 (.iload 5) 42 := ⟨by decide +kernel, rfl⟩
theorem dX7_greedyBlocks_42 : uD 1 cX7_greedyBlocks 42 (.iconst (-1)) 43 := ⟨by decide +kernel, rfl⟩
theorem dX7_greedyBlocks_43 : uD 1 cX7_greedyBlocks 43 (.ixor) 44 := ⟨by decide +kernel, rfl⟩
theorem dX7_greedyBlocks_44 : uD 1 cX7_greedyBlocks 44 (.iand) 45 := ⟨by decide +kernel, rfl⟩
theorem dX7_greedyBlocks_45 : uD 1 cX7_greedyBlocks 45 (.istore_n 2) 46 := ⟨by decide +kernel, rfl⟩
theorem dX7_greedyBlocks_46 : uD 1 cX7_greedyBlocks 46 (.aload_n 0) 47 := ⟨by decide +kernel, rfl⟩
theorem dX7_greedyBlocks_47 : uD 3 cX7_greedyBlocks 47 (.getfield 26) 50 := ⟨by decide +kernel, rfl⟩
theorem dX7_greedyBlocks_50 : uD 3 cX7_greedyBlocks 50 (.getfield 117) 53 := ⟨by decide +kernel, rfl⟩
theorem dX7_greedyBlocks_53 : uD 1 cX7_greedyBlocks 53 (.aload_n 0) 54 := ⟨by decide +kernel, rfl⟩
theorem dX7_greedyBlocks_54 : uD 3 cX7_greedyBlocks 54 (.getfield 26) 57 := ⟨by decide +kernel, rfl⟩
theorem dX7_greedyBlocks_57 : uD 3 cX7_greedyBlocks 57 (.getfield 133) 60 := ⟨by decide +kernel, rfl⟩
theorem dX7_greedyBlocks_60 : uD 1 cX7_greedyBlocks 60 (.iload_n 3) 61 := ⟨by decide +kernel, rfl⟩
theorem dX7_greedyBlocks_61 : uD 2 cX7_greedyBlocks 61 (.iload 5) 63 := ⟨by decide +kernel, rfl⟩
theorem dX7_greedyBlocks_63 : uD 1 cX7_greedyBlocks 63 (.ior) 64 := ⟨by decide +kernel, rfl⟩
theorem dX7_greedyBlocks_64 : uD 3 cX7_greedyBlocks 64 (.invokevirtual 182) 67 := ⟨by decide +kernel, rfl⟩
theorem dX7_greedyBlocks_67 : uD 1 cX7_greedyBlocks 67 (.iload_n 1) 68 := ⟨by decide +kernel, rfl⟩
theorem dX7_greedyBlocks_68 : uJ cX7_greedyBlocks 68 (fun o => .if_icmp .gt o) 76 71 := ⟨8, by decide +kernel, by decide, rfl⟩
theorem dX7_greedyBlocks_71 : uD 1 cX7_greedyBlocks 71 (.iload_n 3) 72 := ⟨by decide +kernel, rfl⟩
theorem dX7_greedyBlocks_72 : uD 2 cX7_greedyBlocks 72 (.iload 5) 74 := ⟨by decide +kernel, rfl⟩
theorem dX7_greedyBlocks_74 : uD 1 cX7_greedyBlocks 74 (.ior) 75 := ⟨by decide +kernel, rfl⟩
theorem dX7_greedyBlocks_75 : uD 1 cX7_greedyBlocks 75 (.istore_n 3) 76 := ⟨by decide +kernel, rfl⟩
theorem dX7_greedyBlocks_76 : uD 3 cX7_greedyBlocks 76 (.iinc 4 1) 79 := ⟨by decide +kernel, rfl⟩
theorem dX7_greedyBlocks_79 : uJ cX7_greedyBlocks 79 (fun o => .goto o) 13 82 := ⟨(-66), by decide +kernel, by decide, rfl⟩
theorem dX7_greedyBlocks_82 : uD 1 cX7_greedyBlocks 82 (.iload_n 3) 83 := ⟨by decide +kernel, rfl⟩
theorem dX7_greedyBlocks_83 : uD 1 cX7_greedyBlocks 83 (.ireturn) 84 := ⟨by decide +kernel, rfl⟩
theorem dJ6_bitCount_0f7a4_0 : uD 1 cJ6_bitCount_0f7a4 0 (.iload_n 0) 1 := ⟨by decide +kernel, rfl⟩
theorem dJ6_bitCount_0f7a4_1 : uD 1 cJ6_bitCount_0f7a4 1 (.iload_n 0) 2 := ⟨by decide +kernel, rfl⟩
theorem dJ6_bitCount_0f7a4_2 : uD 1 cJ6_bitCount_0f7a4 2 (.iconst 1) 3 := ⟨by decide +kernel, rfl⟩
theorem dJ6_bitCount_0f7a4_3 : uD 1 cJ6_bitCount_0f7a4 3 (.iushr) 4 := ⟨by decide +kernel, rfl⟩
theorem dJ6_bitCount_0f7a4_4 : uD 3 cJ6_bitCount_0f7a4 4 (.ldc_w 265) 7 := ⟨by decide +kernel, rfl⟩
theorem dJ6_bitCount_0f7a4_7 : uD 1 cJ6_bitCount_0f7a4 7 (.iand) 8 := ⟨by decide +kernel, rfl⟩
theorem dJ6_bitCount_0f7a4_8 : uD 1 cJ6_bitCount_0f7a4 8 (.isub) 9 := ⟨by decide +kernel, rfl⟩
theorem dJ6_bitCount_0f7a4_9 : uD 1 cJ6_bitCount_0f7a4 9 (.istore_n 0) 10 := ⟨by decide +kernel, rfl⟩
theorem dJ6_bitCount_0f7a4_10 : uD 1 cJ6_bitCount_0f7a4 10 (.iload_n 0) 11 := ⟨by decide +kernel, rfl⟩
theorem dJ6_bitCount_0f7a4_11 : uD 3 cJ6_bitCount_0f7a4 11 (.ldc_w 266) 14 := ⟨by decide +kernel, rfl⟩
theorem dJ6_bitCount_0f7a4_14 : uD 1 cJ6_bitCount_0f7a4 14 (.iand) 15 := ⟨by decide +kernel, rfl⟩
theorem dJ6_bitCount_0f7a4_15 : uD 1 cJ6_bitCount_0f7a4 15 (.iload_n 0) 16 := ⟨by decide +kernel, rfl⟩
theorem dJ6_bitCount_0f7a4_16 : uD 1 cJ6_bitCount_0f7a4 16 (.iconst 2) 17 := ⟨by decide +kernel, rfl⟩
theorem dJ6_bitCount_0f7a4_17 : uD 1 cJ6_bitCount_0f7a4 17 (.iushr) 18 := ⟨by decide +kernel, rfl⟩
theorem dJ6_bitCount_0f7a4_18 : uD 3 cJ6_bitCount_0f7a4 18 (.ldc_w 266) 21 := ⟨by decide +kernel, rfl⟩
theorem dJ6_bitCount_0f7a4_21 : uD 1 cJ6_bitCount_0f7a4 21 (.iand) 22 := ⟨by decide +kernel, rfl⟩
theorem dJ6_bitCount_0f7a4_22 : uD 1 cJ6_bitCount_0f7a4 22 (.iadd) 23 := ⟨by decide +kernel, rfl⟩
theorem dJ6_bitCount_0f7a4_23 : uD 1 cJ6_bitCount_0f7a4 23 (.istore_n 0) 24 := ⟨by decide +kernel, rfl⟩
theorem dJ6_bitCount_0f7a4_24 : uD 1 cJ6_bitCount_0f7a4 24 (.iload_n 0) 25 := ⟨by decide +kernel, rfl⟩
theorem dJ6_bitCount_0f7a4_25 : uD 1 cJ6_bitCount_0f7a4 25 (.iload_n 0) 26 := ⟨by decide +kernel, rfl⟩
theorem dJ6_bitCount_0f7a4_26 : uD 1 cJ6_bitCount_0f7a4 26 (.iconst 4) 27 := ⟨by decide +kernel, rfl⟩
theorem dJ6_bitCount_0f7a4_27 : uD 1 cJ6_bitCount_0f7a4 27 (.iushr) 28 := ⟨by decide +kernel, rfl⟩
theorem dJ6_bitCount_0f7a4_28 : uD 1 cJ6_bitCount_0f7a4 28 (.iadd) 29 := ⟨by decide +kernel, rfl⟩
theorem dJ6_bitCount_0f7a4_29 : uD 3 cJ6_bitCount_0f7a4 29 (.ldc_w 267) 32 := ⟨by decide +kernel, rfl⟩
theorem dJ6_bitCount_0f7a4_32 : uD 1 cJ6_bitCount_0f7a4 32 (.iand) 33 := ⟨by decide +kernel, rfl⟩
theorem dJ6_bitCount_0f7a4_33 : uD 1 cJ6_bitCount_0f7a4 33 (.istore_n 0) 34 := ⟨by decide +kernel, rfl⟩
theorem dJ6_bitCount_0f7a4_34 : uD 1 cJ6_bitCount_0f7a4 34 (.iload_n 0) 35 := ⟨by decide +kernel, rfl⟩
theorem dJ6_bitCount_0f7a4_35 : uD 1 cJ6_bitCount_0f7a4 35 (.iload_n 0) 36 := ⟨by decide +kernel, rfl⟩
theorem dJ6_bitCount_0f7a4_36 : uD 2 cJ6_bitCount_0f7a4 36 (.bipush 8) 38 := ⟨by decide +kernel, rfl⟩
theorem dJ6_bitCount_0f7a4_38 : uD 1 cJ6_bitCount_0f7a4 38 (.iushr) 39 := ⟨by decide +kernel, rfl⟩
theorem dJ6_bitCount_0f7a4_39 : uD 1 cJ6_bitCount_0f7a4 39 (.iadd) 40 := ⟨by decide +kernel, rfl⟩
theorem dJ6_bitCount_0f7a4_40 : uD 1 cJ6_bitCount_0f7a4 40 (.istore_n 0) 41 := ⟨by decide +kernel, rfl⟩
theorem dJ6_bitCount_0f7a4_41 : uD 1 cJ6_bitCount_0f7a4 41 (.iload_n 0) 42 := ⟨by decide +kernel, rfl⟩
theorem dJ6_bitCount_0f7a4_42 : uD 1 cJ6_bitCount_0f7a4 42 (.iload_n 0) 43 := ⟨by decide +kernel, rfl⟩
theorem dJ6_bitCount_0f7a4_43 : uD 2 cJ6_bitCount_0f7a4 43 (.bipush 16) 45 := ⟨by decide +kernel, rfl⟩
theorem dJ6_bitCount_0f7a4_45 : uD 1 cJ6_bitCount_0f7a4 45 (.iushr) 46 := ⟨by decide +kernel, rfl⟩
theorem dJ6_bitCount_0f7a4_46 : uD 1 cJ6_bitCount_0f7a4 46 (.iadd) 47 := ⟨by decide +kernel, rfl⟩
theorem dJ6_bitCount_0f7a4_47 : uD 1 cJ6_bitCount_0f7a4 47 (.istore_n 0) 48 := ⟨by decide +kernel, rfl⟩
theorem dJ6_bitCount_0f7a4_48 : uD 1 cJ6_bitCount_0f7a4 48 (.iload_n 0) 49 := ⟨by decide +kernel, rfl⟩
theorem dJ6_bitCount_0f7a4_49 : uD 2 cJ6_bitCount_0f7a4 49 (.bipush 63) 51 := ⟨by decide +kernel, rfl⟩
theorem dJ6_bitCount_0f7a4_51 : uD 1 cJ6_bitCount_0f7a4 51 (.iand) 52 := ⟨by decide +kernel, rfl⟩
theorem dJ6_bitCount_0f7a4_52 : uD 1 cJ6_bitCount_0f7a4 52 (.ireturn) 53 := ⟨by decide +kernel, rfl⟩
theorem dJ9_max_7cf53_0 : uD 1 cJ9_max_7cf53 0 (.iload_n 0) 1 := ⟨by decide +kernel, rfl⟩
theorem dJ9_max_7cf53_1 : uD 1 cJ9_max_7cf53 1 (.iload_n 1) 2 := ⟨by decide +kernel, rfl⟩
theorem dJ9_max_7cf53_2 : uJ cJ9_max_7cf53 2 (fun o => .if_icmp .lt o) 9 5 := ⟨7, by decide +kernel, by decide, rfl⟩
theorem dJ9_max_7cf53_5 : uD 1 cJ9_max_7cf53 5 (.iload_n 0) 6 := ⟨by decide +kernel, rfl⟩
theorem dJ9_max_7cf53_6 : uJ cJ9_max_7cf53 6 (fun o => .goto o) 10 9 := ⟨4, by decide +kernel, by decide, rfl⟩
theorem dJ9_max_7cf53_9 : uD 1 cJ9_max_7cf53 9 (.iload_n 1) 10 := ⟨by decide +kernel, rfl⟩
theorem dJ9_max_7cf53_10 : uD 1 cJ9_max_7cf53 10 (.ireturn) 11 := ⟨by decide +kernel, rfl⟩
theorem dJ9_max_f86c9_0 : uD 1 cJ9_max_f86c9 0 (.lload_n 0) 1 := ⟨by decide +kernel, rfl⟩
theorem dJ9_max_f86c9_1 : uD 1 cJ9_max_f86c9 1 (.lload_n 2) 2 := ⟨by decide +kernel, rfl⟩
theorem dJ9_max_f86c9_2 : uD 1 cJ9_max_f86c9 2 (.lcmp) 3 := ⟨by decide +kernel, rfl⟩
theorem dJ9_max_f86c9_3 : uJ cJ9_max_f86c9 3 (fun o => .ifCond .lt o) 10 6 := ⟨7, by decide +kernel, by decide, rfl⟩
theorem dJ9_max_f86c9_6 : uD 1 cJ9_max_f86c9 6 (.lload_n 0) 7 := ⟨by decide +kernel, rfl⟩
theorem dJ9_max_f86c9_7 : uJ cJ9_max_f86c9 7 (fun o => .goto o) 11 10 := ⟨4, by decide +kernel, by decide, rfl⟩
theorem dJ9_max_f86c9_10 : uD 1 cJ9_max_f86c9 10 (.lload_n 2) 11 := ⟨by decide +kernel, rfl⟩
theorem dJ9_max_f86c9_11 : uD 1 cJ9_max_f86c9 11 (.lreturn) 12 := ⟨by decide +kernel, rfl⟩
theorem dJ9_min_7cf53_0 : uD 1 cJ9_min_7cf53 0 (.iload_n 0) 1 := ⟨by decide +kernel, rfl⟩
theorem dJ9_min_7cf53_1 : uD 1 cJ9_min_7cf53 1 (.iload_n 1) 2 := ⟨by decide +kernel, rfl⟩
theorem dJ9_min_7cf53_2 : uJ cJ9_min_7cf53 2 (fun o => .if_icmp .gt o) 9 5 := ⟨7, by decide +kernel, by decide, rfl⟩
theorem dJ9_min_7cf53_5 : uD 1 cJ9_min_7cf53 5 (.iload_n 0) 6 := ⟨by decide +kernel, rfl⟩
theorem dJ9_min_7cf53_6 : uJ cJ9_min_7cf53 6 (fun o => .goto o) 10 9 := ⟨4, by decide +kernel, by decide, rfl⟩
theorem dJ9_min_7cf53_9 : uD 1 cJ9_min_7cf53 9 (.iload_n 1) 10 := ⟨by decide +kernel, rfl⟩
theorem dJ9_min_7cf53_10 : uD 1 cJ9_min_7cf53 10 (.ireturn) 11 := ⟨by decide +kernel, rfl⟩
theorem dJ0_length_8abf5_0 : uD 1 cJ0_length_8abf5 0 (.aload_n 0) 1 := ⟨by decide +kernel, rfl⟩
theorem dJ0_length_8abf5_1 : uD 3 cJ0_length_8abf5 1 (.getfield 9) 4 := ⟨by decide +kernel, rfl⟩
theorem dJ0_length_8abf5_4 : uD 1 cJ0_length_8abf5 4 (.arraylength) 5 := ⟨by decide +kernel, rfl⟩
theorem dJ0_length_8abf5_5 : uD 1 cJ0_length_8abf5 5 (.aload_n 0) 6 := ⟨by decide +kernel, rfl⟩
theorem dJ0_length_8abf5_6 : uD 3 cJ0_length_8abf5 6 (.invokevirtual 335) 9 := ⟨by decide +kernel, rfl⟩
theorem dJ0_length_8abf5_9 : uD 1 cJ0_length_8abf5 9 (.ishr) 10 := ⟨by decide +kernel, rfl⟩
theorem dJ0_length_8abf5_10 : uD 1 cJ0_length_8abf5 10 (.ireturn) 11 := ⟨by decide +kernel, rfl⟩
theorem dJ0_charAt_5068e_0 : uD 1 cJ0_charAt_5068e 0 (.aload_n 0) 1 := ⟨by decide +kernel, rfl⟩
theorem dJ0_charAt_5068e_1 : uD 3 cJ0_charAt_5068e 1 (.invokevirtual 492) 4 := ⟨by decide +kernel, rfl⟩
theorem dJ0_charAt_5068e_4 : uJ cJ0_charAt_5068e 4 (fun o => .ifCond .eq o) 16 7 := ⟨12, by decide +kernel, by decide, rfl⟩
theorem dJ0_charAt_5068e_7 : uD 1 cJ0_charAt_5068e 7 (.aload_n 0) 8 := ⟨by decide +kernel, rfl⟩
theorem dJ0_charAt_5068e_8 : uD 3 cJ0_charAt_5068e 8 (.getfield 9) 11 := ⟨by decide +kernel, rfl⟩
theorem dJ0_charAt_5068e_11 : uD 1 cJ0_charAt_5068e 11 (.iload_n 1) 12 := ⟨by decide +kernel, rfl⟩
theorem dJ0_charAt_5068e_12 : uD 3 cJ0_charAt_5068e 12 (.invokestatic 495) 15 := ⟨by decide +kernel, rfl⟩
theorem dJ0_charAt_5068e_15 : uD 1 cJ0_charAt_5068e 15 (.ireturn) 16 := ⟨by decide +kernel, rfl⟩
theorem dJ0_charAt_5068e_16 : uD 1 cJ0_charAt_5068e 16 (.aload_n 0) 17 := ⟨by decide +kernel, rfl⟩
theorem dJ0_charAt_5068e_17 : uD 3 cJ0_charAt_5068e 17 (.getfield 9) 20 := ⟨by decide +kernel, rfl⟩
theorem dJ0_charAt_5068e_20 : uD 1 cJ0_charAt_5068e 20 (.iload_n 1) 21 := ⟨by decide +kernel, rfl⟩
theorem dJ0_charAt_5068e_21 : uD 3 cJ0_charAt_5068e 21 (.invokestatic 498) 24 := ⟨by decide +kernel, rfl⟩
theorem dJ0_charAt_5068e_24 : uD 1 cJ0_charAt_5068e 24 (.ireturn) 25 := ⟨by decide +kernel, rfl⟩
theorem dJ0_coder_7d493_0 : uD 3 cJ0_coder_7d493 0 (.getstatic 38) 3 := ⟨by decide +kernel, rfl⟩
theorem dJ0_coder_7d493_3 : uJ cJ0_coder_7d493 3 (fun o => .ifCond .eq o) 13 6 := ⟨10, by decide +kernel, by decide, rfl⟩
theorem dJ0_coder_7d493_6 : uD 1 cJ0_coder_7d493 6 (.aload_n 0) 7 := ⟨by decide +kernel, rfl⟩
theorem dJ0_coder_7d493_7 : uD 3 cJ0_coder_7d493 7 (.getfield 15) 10 := ⟨by decide +kernel, rfl⟩
theorem dJ0_coder_7d493_10 : uJ cJ0_coder_7d493 10 (fun o => .goto o) 14 13 := ⟨4, by decide +kernel, by decide, rfl⟩
theorem dJ0_coder_7d493_13 : uD 1 cJ0_coder_7d493 13 (.iconst 1) 14 := ⟨by decide +kernel, rfl⟩
theorem dJ0_coder_7d493_14 : uD 1 cJ0_coder_7d493 14 (.ireturn) 15 := ⟨by decide +kernel, rfl⟩
theorem dJ0_isLatin1_aae02_0 : uD 3 cJ0_isLatin1_aae02 0 (.getstatic 38) 3 := ⟨by decide +kernel, rfl⟩
theorem dJ0_isLatin1_aae02_3 : uJ cJ0_isLatin1_aae02 3 (fun o => .ifCond .eq o) 17 6 := ⟨14, by decide +kernel, by decide, rfl⟩
theorem dJ0_isLatin1_aae02_6 : uD 1 cJ0_isLatin1_aae02 6 (.aload_n 0) 7 := ⟨by decide +kernel, rfl⟩
theorem dJ0_isLatin1_aae02_7 : uD 3 cJ0_isLatin1_aae02 7 (.getfield 15) 10 := ⟨by decide +kernel, rfl⟩
theorem dJ0_isLatin1_aae02_10 : uJ cJ0_isLatin1_aae02 10 (fun o => .ifCond .ne o) 17 13 := ⟨7, by decide +kernel, by decide, rfl⟩
theorem dJ0_isLatin1_aae02_13 : uD 1 cJ0_isLatin1_aae02 13 (.iconst 1) 14 := ⟨by decide +kernel, rfl⟩
theorem dJ0_isLatin1_aae02_14 : uJ cJ0_isLatin1_aae02 14 (fun o => .goto o) 18 17 := ⟨4, by decide +kernel, by decide, rfl⟩
theorem dJ0_isLatin1_aae02_17 : uD 1 cJ0_isLatin1_aae02 17 (.iconst 0) 18 := ⟨by decide +kernel, rfl⟩
theorem dJ0_isLatin1_aae02_18 : uD 1 cJ0_isLatin1_aae02 18 (.ireturn) 19 := ⟨by decide +kernel, rfl⟩
theorem dJ0_checkIndex_df160_0 : uD 1 cJ0_checkIndex_df160 0 (.iload_n 0) 1 := ⟨by decide +kernel, rfl⟩
theorem dJ0_checkIndex_df160_1 : uD 1 cJ0_checkIndex_df160 1 (.iload_n 1) 2 := ⟨by decide +kernel, rfl⟩
theorem dJ0_checkIndex_df160_2 : uD 3 cJ0_checkIndex_df160 2 (.getstatic 1053) 5 := ⟨by decide +kernel, rfl⟩
theorem dJ0_checkIndex_df160_5 : uD 3 cJ0_checkIndex_df160 5 (.invokestatic 1059) 8 := ⟨by decide +kernel, rfl⟩
theorem dJ0_checkIndex_df160_8 : uD 1 cJ0_checkIndex_df160 8 (.pop) 9 := ⟨by decide +kernel, rfl⟩
theorem dJ0_checkIndex_df160_9 : uD 1 cJ0_checkIndex_df160 9 (.return_) 10 := ⟨by decide +kernel, rfl⟩
theorem dJ1_charAt_3b067_0 : uD 1 cJ1_charAt_3b067 0 (.iload_n 1) 1 := ⟨by decide +kernel, rfl⟩
theorem dJ1_charAt_3b067_1 : uD 1 cJ1_charAt_3b067 1 (.aload_n 0) 2 := ⟨by decide +kernel, rfl⟩
theorem dJ1_charAt_3b067_2 : uD 1 cJ1_charAt_3b067 2 (.arraylength) 3 := ⟨by decide +kernel, rfl⟩
theorem dJ1_charAt_3b067_3 : uD 3 cJ1_charAt_3b067 3 (.invokestatic 9) 6 := ⟨by decide +kernel, rfl⟩
theorem dJ1_charAt_3b067_6 : uD 1 cJ1_charAt_3b067 6 (.aload_n 0) 7 := ⟨by decide +kernel, rfl⟩
theorem dJ1_charAt_3b067_7 : uD 1 cJ1_charAt_3b067 7 (.iload_n 1) 8 := ⟨by decide +kernel, rfl⟩
theorem dJ1_charAt_3b067_8 : uD 1 cJ1_charAt_3b067 8 (.baload) 9 := ⟨by decide +kernel, rfl⟩
theorem dJ1_charAt_3b067_9 : uD 3 cJ1_charAt_3b067 9 (.sipush 255) 12 := ⟨by decide +kernel, rfl⟩
theorem dJ1_charAt_3b067_12 : uD 1 cJ1_charAt_3b067 12 (.iand) 13 := ⟨by decide +kernel, rfl⟩
theorem dJ1_charAt_3b067_13 : uD 1 cJ1_charAt_3b067 13 (.i2c) 14 := ⟨by decide +kernel, rfl⟩
theorem dJ1_charAt_3b067_14 : uD 1 cJ1_charAt_3b067 14 (.ireturn) 15 := ⟨by decide +kernel, rfl⟩
theorem dJ2_getChar_3b067_0 : uD 3 cJ2_getChar_3b067 0 (.getstatic 44) 3 := ⟨by decide +kernel, rfl⟩
theorem dJ2_getChar_3b067_3 : uJ cJ2_getChar_3b067 3 (fun o => .ifCond .ne o) 28 6 := ⟨25, by decide +kernel, by decide, rfl⟩
theorem dJ2_getChar_3b067_6 : uD 1 cJ2_getChar_3b067 6 (.iload_n 1) 7 := ⟨by decide +kernel, rfl⟩
theorem dJ2_getChar_3b067_7 : uJ cJ2_getChar_3b067 7 (fun o => .ifCond .lt o) 18 10 := ⟨11, by decide +kernel, by decide, rfl⟩
theorem dJ2_getChar_3b067_10 : uD 1 cJ2_getChar_3b067 10 (.iload_n 1) 11 := ⟨by decide +kernel, rfl⟩
theorem dJ2_getChar_3b067_11 : uD 1 cJ2_getChar_3b067 11 (.aload_n 0) 12 := ⟨by decide +kernel, rfl⟩
theorem dJ2_getChar_3b067_12 : uD 3 cJ2_getChar_3b067 12 (.invokestatic 48) 15 := ⟨by decide +kernel, rfl⟩
theorem dJ2_getChar_3b067_15 : uJ cJ2_getChar_3b067 15 (fun o => .if_icmp .lt o) 28 18 := ⟨13, by decide +kernel, by decide, rfl⟩
theorem dJ2_getChar_3b067_18 : uD 3 cJ2_getChar_3b067 18 (.new 52) 21 := ⟨by decide +kernel, rfl⟩
theorem dJ2_getChar_3b067_21 : uD 1 cJ2_getChar_3b067 21 (.dup) 22 := ⟨by decide +kernel, rfl⟩
theorem dJ2_getChar_3b067_22 : uD 2 cJ2_getChar_3b067 22 (.ldc 54) 24 := ⟨by decide +kernel, rfl⟩
theorem dJ2_getChar_3b067_24 : uD 3 cJ2_getChar_3b067 24 (.invokespecial 56) 27 := ⟨by decide +kernel, rfl⟩
theorem dJ2_getChar_3b067_27 : uD 1 cJ2_getChar_3b067 27 (.athrow) 28 := ⟨by decide +kernel, rfl⟩
theorem dJ2_getChar_3b067_28 : uD 1 cJ2_getChar_3b067 28 (.iload_n 1) 29 := ⟨by decide +kernel, rfl⟩
theorem dJ2_getChar_3b067_29 : uD 1 cJ2_getChar_3b067 29 (.iconst 1) 30 := ⟨by decide +kernel, rfl⟩
theorem dJ2_getChar_3b067_30 : uD 1 cJ2_getChar_3b067 30 (.ishl) 31 := ⟨by decide +kernel, rfl⟩
theorem dJ2_getChar_3b067_31 : uD 1 cJ2_getChar_3b067 31 (.istore_n 1) 32 := ⟨by decide +kernel, rfl⟩
theorem dJ2_getChar_3b067_32 : uD 1 cJ2_getChar_3b067 32 (.aload_n 0) 33 := ⟨by decide +kernel, rfl⟩
theorem dJ2_getChar_3b067_33 : uD 1 cJ2_getChar_3b067 33 (.iload_n 1) 34 := ⟨by decide +kernel, rfl⟩
theorem dJ2_getChar_3b067_34 : uD 3 cJ2_getChar_3b067 34 (.iinc 1 1) 37 := ⟨by decide +kernel, rfl⟩
theorem dJ2_getChar_3b067_37 : uD 1 cJ2_getChar_3b067 37 (.baload) 38 := ⟨by decide +kernel, rfl⟩
theorem dJ2_getChar_3b067_38 : uD 3 cJ2_getChar_3b067 38 (.sipush 255) 41 := ⟨by decide +kernel, rfl⟩
theorem dJ2_getChar_3b067_41 : uD 1 cJ2_getChar_3b067 41 (.iand) 42 := ⟨by decide +kernel, rfl⟩
theorem dJ2_getChar_3b067_42 : uD 3 cJ2_getChar_3b067 42 (.getstatic 59) 45 := ⟨by decide +kernel, rfl⟩
theorem dJ2_getChar_3b067_45 : uD 1 cJ2_getChar_3b067 45 (.ishl) 46 := ⟨by decide +kernel, rfl⟩
theorem dJ2_getChar_3b067_46 : uD 1 cJ2_getChar_3b067 46 (.aload_n 0) 47 := ⟨by decide +kernel, rfl⟩
theorem dJ2_getChar_3b067_47 : uD 1 cJ2_getChar_3b067 47 (.iload_n 1) 48 := ⟨by decide +kernel, rfl⟩
theorem dJ2_getChar_3b067_48 : uD 1 cJ2_getChar_3b067 48 (.baload) 49 := ⟨by decide +kernel, rfl⟩
theorem dJ2_getChar_3b067_49 : uD 3 cJ2_getChar_3b067 49 (.sipush 255) 52 := ⟨by decide +kernel, rfl⟩
theorem dJ2_getChar_3b067_52 : uD 1 cJ2_getChar_3b067 52 (.iand) 53 := ⟨by decide +kernel, rfl⟩
theorem dJ2_getChar_3b067_53 : uD 3 cJ2_getChar_3b067 53 (.getstatic 63) 56 := ⟨by decide +kernel, rfl⟩
theorem dJ2_getChar_3b067_56 : uD 1 cJ2_getChar_3b067 56 (.ishl) 57 := ⟨by decide +kernel, rfl⟩
theorem dJ2_getChar_3b067_57 : uD 1 cJ2_getChar_3b067 57 (.ior) 58 := ⟨by decide +kernel, rfl⟩
theorem dJ2_getChar_3b067_58 : uD 1 cJ2_getChar_3b067 58 (.i2c) 59 := ⟨by decide +kernel, rfl⟩
theorem dJ2_getChar_3b067_59 : uD 1 cJ2_getChar_3b067 59 (.ireturn) 60 := ⟨by decide +kernel, rfl⟩
theorem dJ2_length_9d52b_0 : uD 1 cJ2_length_9d52b 0 (.aload_n 0) 1 := ⟨by decide +kernel, rfl⟩
theorem dJ2_length_9d52b_1 : uD 1 cJ2_length_9d52b 1 (.arraylength) 2 := ⟨by decide +kernel, rfl⟩
theorem dJ2_length_9d52b_2 : uD 1 cJ2_length_9d52b 2 (.iconst 1) 3 := ⟨by decide +kernel, rfl⟩
theorem dJ2_length_9d52b_3 : uD 1 cJ2_length_9d52b 3 (.ishr) 4 := ⟨by decide +kernel, rfl⟩
theorem dJ2_length_9d52b_4 : uD 1 cJ2_length_9d52b 4 (.ireturn) 5 := ⟨by decide +kernel, rfl⟩
theorem dJ2_charAt_3b067_0 : uD 1 cJ2_charAt_3b067 0 (.iload_n 1) 1 := ⟨by decide +kernel, rfl⟩
theorem dJ2_charAt_3b067_1 : uD 1 cJ2_charAt_3b067 1 (.aload_n 0) 2 := ⟨by decide +kernel, rfl⟩
theorem dJ2_charAt_3b067_2 : uD 3 cJ2_charAt_3b067 2 (.invokestatic 67) 5 := ⟨by decide +kernel, rfl⟩
theorem dJ2_charAt_3b067_5 : uD 1 cJ2_charAt_3b067 5 (.aload_n 0) 6 := ⟨by decide +kernel, rfl⟩
theorem dJ2_charAt_3b067_6 : uD 1 cJ2_charAt_3b067 6 (.iload_n 1) 7 := ⟨by decide +kernel, rfl⟩
theorem dJ2_charAt_3b067_7 : uD 3 cJ2_charAt_3b067 7 (.invokestatic 71) 10 := ⟨by decide +kernel, rfl⟩
theorem dJ2_charAt_3b067_10 : uD 1 cJ2_charAt_3b067 10 (.ireturn) 11 := ⟨by decide +kernel, rfl⟩
theorem dJ2_checkIndex_2214a_0 : uD 1 cJ2_checkIndex_2214a 0 (.iload_n 0) 1 := ⟨by decide +kernel, rfl⟩
theorem dJ2_checkIndex_2214a_1 : uD 1 cJ2_checkIndex_2214a 1 (.aload_n 1) 2 := ⟨by decide +kernel, rfl⟩
theorem dJ2_checkIndex_2214a_2 : uD 3 cJ2_checkIndex_2214a 2 (.invokestatic 48) 5 := ⟨by decide +kernel, rfl⟩
theorem dJ2_checkIndex_2214a_5 : uD 3 cJ2_checkIndex_2214a 5 (.invokestatic 414) 8 := ⟨by decide +kernel, rfl⟩
theorem dJ2_checkIndex_2214a_8 : uD 1 cJ2_checkIndex_2214a 8 (.return_) 9 := ⟨by decide +kernel, rfl⟩
theorem dJ7_fill_d0a16_0 : uD 1 cJ7_fill_d0a16 0 (.iconst 0) 1 := ⟨by decide +kernel, rfl⟩
theorem dJ7_fill_d0a16_1 : uD 1 cJ7_fill_d0a16 1 (.istore_n 3) 2 := ⟨by decide +kernel, rfl⟩
theorem dJ7_fill_d0a16_2 : uD 1 cJ7_fill_d0a16 2 (.aload_n 0) 3 := ⟨by decide +kernel, rfl⟩
theorem dJ7_fill_d0a16_3 : uD 1 cJ7_fill_d0a16 3 (.arraylength) 4 := ⟨by decide +kernel, rfl⟩
theorem dJ7_fill_d0a16_4 : uD 2 cJ7_fill_d0a16 4 (.istore 4) 6 := ⟨by decide +kernel, rfl⟩
theorem dJ7_fill_d0a16_6 : uD 1 cJ7_fill_d0a16 6 (.iload_n 3) 7 := ⟨by decide +kernel, rfl⟩
theorem dJ7_fill_d0a16_7 : uD 2 cJ7_fill_d0a16 7 (.iload 4) 9 := ⟨by decide +kernel, rfl⟩
theorem dJ7_fill_d0a16_9 : uJ cJ7_fill_d0a16 9 (fun o => .if_icmp .ge o) 22 12 := ⟨13, by decide +kernel, by decide, rfl⟩
theorem dJ7_fill_d0a16_12 : uD 1 cJ7_fill_d0a16 12 (.aload_n 0) 13 := ⟨by decide +kernel, rfl⟩
theorem dJ7_fill_d0a16_13 : uD 1 cJ7_fill_d0a16 13 (.iload_n 3) 14 := ⟨by decide +kernel, rfl⟩
theorem dJ7_fill_d0a16_14 : uD 1 cJ7_fill_d0a16 14 (.lload_n 1) 15 := ⟨by decide +kernel, rfl⟩
theorem dJ7_fill_d0a16_15 : uD 1 cJ7_fill_d0a16 15 (.lastore) 16 := ⟨by decide +kernel, rfl⟩
theorem dJ7_fill_d0a16_16 : uD 3 cJ7_fill_d0a16 16 (.iinc 3 1) 19 := ⟨by decide +kernel, rfl⟩
theorem dJ7_fill_d0a16_19 : uJ cJ7_fill_d0a16 19 (fun o => .goto o) 6 22 := ⟨(-13), by decide +kernel, by decide, rfl⟩
theorem dJ7_fill_d0a16_22 : uD 1 cJ7_fill_d0a16 22 (.return_) 23 := ⟨by decide +kernel, rfl⟩
theorem dJ3_checkIndex_8e157_0 : uD 1 cJ3_checkIndex_8e157 0 (.iload_n 0) 1 := ⟨by decide +kernel, rfl⟩
theorem dJ3_checkIndex_8e157_1 : uJ cJ3_checkIndex_8e157 1 (fun o => .ifCond .lt o) 9 4 := ⟨8, by decide +kernel, by decide, rfl⟩
theorem dJ3_checkIndex_8e157_4 : uD 1 cJ3_checkIndex_8e157 4 (.iload_n 0) 5 := ⟨by decide +kernel, rfl⟩
theorem dJ3_checkIndex_8e157_5 : uD 1 cJ3_checkIndex_8e157 5 (.iload_n 1) 6 := ⟨by decide +kernel, rfl⟩
theorem dJ3_checkIndex_8e157_6 : uJ cJ3_checkIndex_8e157 6 (fun o => .if_icmp .lt o) 16 9 := ⟨10, by decide +kernel, by decide, rfl⟩
theorem dJ3_checkIndex_8e157_9 : uD 1 cJ3_checkIndex_8e157 9 (.aload_n 2) 10 := ⟨by decide +kernel, rfl⟩
theorem dJ3_checkIndex_8e157_10 : uD 1 cJ3_checkIndex_8e157 10 (.iload_n 0) 11 := ⟨by decide +kernel, rfl⟩
theorem dJ3_checkIndex_8e157_11 : uD 1 cJ3_checkIndex_8e157 11 (.iload_n 1) 12 := ⟨by decide +kernel, rfl⟩
theorem dJ3_checkIndex_8e157_12 : uD 3 cJ3_checkIndex_8e157 12 (.invokestatic 95) 15 := ⟨by decide +kernel, rfl⟩
theorem dJ3_checkIndex_8e157_15 : uD 1 cJ3_checkIndex_8e157 15 (.athrow) 16 := ⟨by decide +kernel, rfl⟩
theorem dJ3_checkIndex_8e157_16 : uD 1 cJ3_checkIndex_8e157 16 (.iload_n 0) 17 := ⟨by decide +kernel, rfl⟩
theorem dJ3_checkIndex_8e157_17 : uD 1 cJ3_checkIndex_8e157 17 (.ireturn) 18 := ⟨by decide +kernel, rfl⟩
end
section
theorem dX8_init_0 : uD 1 cX8_init 0 (.aload_n 0) 1 := ⟨by decide +kernel, rfl⟩
theorem dX8_init_1 : uD 3 cX8_init 1 (.invokespecial 1) 4 := ⟨by decide +kernel, rfl⟩
theorem dX8_init_4 : uD 1 cX8_init 4 (.aload_n 0) 5 := ⟨by decide +kernel, rfl⟩
theorem dX8_init_5 : uD 2 cX8_init 5 (.bipush 109) 7 := ⟨by decide +kernel, rfl⟩
theorem dX8_init_7 : uD 2 cX8_init 7 (.newarray .int) 9 := ⟨by decide +kernel, rfl⟩
theorem dX8_init_9 : uD 3 cX8_init 9 (.putfield 7) 12 := ⟨by decide +kernel, rfl⟩
theorem dX8_init_12 : uD 1 cX8_init 12 (.aload_n 0) 13 := ⟨by decide +kernel, rfl⟩
theorem dX8_init_13 : uD 2 cX8_init 13 (.bipush 109) 15 := ⟨by decide +kernel, rfl⟩
theorem dX8_init_15 : uD 2 cX8_init 15 (.newarray .int) 17 := ⟨by decide +kernel, rfl⟩
theorem dX8_init_17 : uD 3 cX8_init 17 (.putfield 13) 20 := ⟨by decide +kernel, rfl⟩
theorem dX8_init_20 : uD 1 cX8_init 20 (.aload_n 0) 21 := ⟨by decide +kernel, rfl⟩
theorem dX8_init_21 : uD 3 cX8_init 21 (.sipush 218) 24 := ⟨by decide +kernel, rfl⟩
theorem dX8_init_24 : uD 2 cX8_init 24 (.newarray .int) 26 := ⟨by decide +kernel, rfl⟩
theorem dX8_init_26 : uD 3 cX8_init 26 (.putfield 16) 29 := ⟨by decide +kernel, rfl⟩
theorem dX8_init_29 : uD 1 cX8_init 29 (.aload_n 0) 30 := ⟨by decide +kernel, rfl⟩
theorem dX8_init_30 : uD 2 cX8_init 30 (.bipush 109) 32 := ⟨by decide +kernel, rfl⟩
theorem dX8_init_32 : uD 2 cX8_init 32 (.newarray .int) 34 := ⟨by decide +kernel, rfl⟩
theorem dX8_init_34 : uD 3 cX8_init 34 (.putfield 19) 37 := ⟨by decide +kernel, rfl⟩
theorem dX8_init_37 : uD 1 cX8_init 37 (.aload_n 0) 38 := ⟨by decide +kernel, rfl⟩
theorem dX8_init_38 : uD 1 cX8_init 38 (.iconst 2) 39 := ⟨by decide +kernel, rfl⟩
theorem dX8_init_39 : uD 2 cX8_init 39 (.newarray .boolean) 41 := ⟨by decide +kernel, rfl⟩
theorem dX8_init_41 : uD 3 cX8_init 41 (.putfield 22) 44 := ⟨by decide +kernel, rfl⟩
theorem dX8_init_44 : uD 1 cX8_init 44 (.aload_n 0) 45 := ⟨by decide +kernel, rfl⟩
theorem dX8_init_45 : uD 3 cX8_init 45 (.sipush 400) 48 := ⟨by decide +kernel, rfl⟩
theorem dX8_init_48 : uD 2 cX8_init 48 (.newarray .int) 50 := ⟨by decide +kernel, rfl⟩
theorem dX8_init_50 : uD 3 cX8_init 50 (.putfield 26) 53 := ⟨by decide +kernel, rfl⟩
theorem dX8_init_53 : uD 1 cX8_init 53 (.aload_n 0) 54 := ⟨by decide +kernel, rfl⟩
theorem dX8_init_54 : uD 1 cX8_init 54 (.iconst (-1)) 55 := ⟨by decide +kernel, rfl⟩
theorem dX8_init_55 : uD 3 cX8_init 55 (.putfield 29) 58 := ⟨by decide +kernel, rfl⟩
theorem dX8_init_58 : uD 1 cX8_init 58 (.aload_n 0) 59 := ⟨by decide +kernel, rfl⟩
theorem dX8_init_59 : uD 3 cX8_init 59 (.sipush 1503) 62 := ⟨by decide +kernel, rfl⟩
theorem dX8_init_62 : uD 2 cX8_init 62 (.newarray .long) 64 := ⟨by decide +kernel, rfl⟩
theorem dX8_init_64 : uD 3 cX8_init 64 (.putfield 33) 67 := ⟨by decide +kernel, rfl⟩
theorem dX8_init_67 : uD 1 cX8_init 67 (.aload_n 0) 68 := ⟨by decide +kernel, rfl⟩
theorem dX8_init_68 : uD 3 cX8_init 68 (.sipush 1503) 71 := ⟨by decide +kernel, rfl⟩
theorem dX8_init_71 : uD 2 cX8_init 71 (.newarray .long) 73 := ⟨by decide +kernel, rfl⟩
theorem dX8_init_73 : uD 3 cX8_init 73 (.putfield 37) 76 := ⟨by decide +kernel, rfl⟩
theorem dX8_init_76 : uD 1 cX8_init 76 (.aload_n 0) 77 := ⟨by decide +kernel, rfl⟩
theorem dX8_init_77 : uD 3 cX8_init 77 (.sipush 501) 80 := ⟨by decide +kernel, rfl⟩
theorem dX8_init_80 : uD 2 cX8_init 80 (.newarray .long) 82 := ⟨by decide +kernel, rfl⟩
theorem dX8_init_82 : uD 3 cX8_init 82 (.putfield 40) 85 := ⟨by decide +kernel, rfl⟩
theorem dX8_init_85 : uD 1 cX8_init 85 (.aload_n 0) 86 := ⟨by decide +kernel, rfl⟩
theorem dX8_init_86 : uD 3 cX8_init 86 (.invokevirtual 43) 89 := ⟨by decide +kernel, rfl⟩
theorem dX8_init_89 : uD 1 cX8_init 89 (.aload_n 0) 90 := ⟨by decide +kernel, rfl⟩
theorem dX8_init_90 : uD 3 cX8_init 90 (.getfield 13) 93 := ⟨by decide +kernel, rfl⟩
theorem dX8_init_93 : uD 1 cX8_init 93 (.iconst 0) 94 := ⟨by decide +kernel, rfl⟩
theorem dX8_init_94 : uD 2 cX8_init 94 (.bipush 100) 96 := ⟨by decide +kernel, rfl⟩
theorem dX8_init_96 : uD 1 cX8_init 96 (.iastore) 97 := ⟨by decide +kernel, rfl⟩
theorem dX8_init_97 : uD 1 cX8_init 97 (.aload_n 0) 98 := ⟨by decide +kernel, rfl⟩
theorem dX8_init_98 : uD 3 cX8_init 98 (.getfield 13) 101 := ⟨by decide +kernel, rfl⟩
theorem dX8_init_101 : uD 1 cX8_init 101 (.iconst 1) 102 := ⟨by decide +kernel, rfl⟩
theorem dX8_init_102 : uD 2 cX8_init 102 (.bipush 100) 104 := ⟨by decide +kernel, rfl⟩
theorem dX8_init_104 : uD 1 cX8_init 104 (.iastore) 105 := ⟨by decide +kernel, rfl⟩
theorem dX8_init_105 : uD 1 cX8_init 105 (.aload_n 0) 106 := ⟨by decide +kernel, rfl⟩
theorem dX8_init_106 : uD 3 cX8_init 106 (.getfield 13) 109 := ⟨by decide +kernel, rfl⟩
theorem dX8_init_109 : uD 1 cX8_init 109 (.iconst 2) 110 := ⟨by decide +kernel, rfl⟩
theorem dX8_init_110 : uD 2 cX8_init 110 (.bipush 10) 112 := ⟨by decide +kernel, rfl⟩
theorem dX8_init_112 : uD 1 cX8_init 112 (.iastore) 113 := ⟨by decide +kernel, rfl⟩
theorem dX8_init_113 : uD 1 cX8_init 113 (.aload_n 0) 114 := ⟨by decide +kernel, rfl⟩
theorem dX8_init_114 : uD 3 cX8_init 114 (.getfield 13) 117 := ⟨by decide +kernel, rfl⟩
theorem dX8_init_117 : uD 1 cX8_init 117 (.iconst 3) 118 := ⟨by decide +kernel, rfl⟩
theorem dX8_init_118 : uD 1 cX8_init 118 (.iconst 1) 119 := ⟨by decide +kernel, rfl⟩
theorem dX8_init_119 : uD 1 cX8_init 119 (.iastore) 120 := ⟨by decide +kernel, rfl⟩
theorem dX8_init_120 : uD 1 cX8_init 120 (.aload_n 0) 121 := ⟨by decide +kernel, rfl⟩
theorem dX8_init_121 : uD 3 cX8_init 121 (.getfield 13) 124 := ⟨by decide +kernel, rfl⟩
theorem dX8_init_124 : uD 1 cX8_init 124 (.iconst 4) 125 := ⟨by decide +kernel, rfl⟩
theorem dX8_init_125 : uD 2 cX8_init 125 (.bipush 100) 127 := ⟨by decide +kernel, rfl⟩
theorem dX8_init_127 : uD 1 cX8_init 127 (.iastore) 128 := ⟨by decide +kernel, rfl⟩
theorem dX8_init_128 : uD 1 cX8_init 128 (.aload_n 0) 129 := ⟨by decide +kernel, rfl⟩
theorem dX8_init_129 : uD 3 cX8_init 129 (.invokevirtual 46) 132 := ⟨by decide +kernel, rfl⟩
theorem dX8_init_132 : uD 1 cX8_init 132 (.return_) 133 := ⟨by decide +kernel, rfl⟩
theorem dX8_thrown_0 : uD 1 cX8_thrown 0 (.aload_n 0) 1 := ⟨by decide +kernel, rfl⟩
theorem dX8_thrown_1 : uD 3 cX8_thrown 1 (.getfield 49) 4 := ⟨by decide +kernel, rfl⟩
theorem dX8_thrown_4 : uD 1 cX8_thrown 4 (.ireturn) 5 := ⟨by decide +kernel, rfl⟩
theorem dX8_isIn_0 : uD 1 cX8_isIn 0 (.iload_n 0) 1 := ⟨by decide +kernel, rfl⟩
theorem dX8_isIn_1 : uD 1 cX8_isIn 1 (.iload_n 1) 2 := ⟨by decide +kernel, rfl⟩
theorem dX8_isIn_2 : uJ cX8_isIn 2 (fun o => .if_icmp .lt o) 14 5 := ⟨12, by decide +kernel, by decide, rfl⟩
theorem dX8_isIn_5 : uD 1 cX8_isIn 5 (.iload_n 0) 6 := ⟨by decide +kernel, rfl⟩
theorem dX8_isIn_6 : uD 1 cX8_isIn 6 (.iload_n 2) 7 := ⟨by decide +kernel, rfl⟩
theorem dX8_isIn_7 : uJ cX8_isIn 7 (fun o => .if_icmp .gt o) 14 10 := ⟨7, by decide +kernel, by decide, rfl⟩
theorem dX8_isIn_10 : uD 1 cX8_isIn 10 (.iconst 1) 11 := ⟨by decide +kernel, rfl⟩
theorem dX8_isIn_11 : uJ cX8_isIn 11 (fun o => .goto o) 15 14 := ⟨4, by decide +kernel, by decide, rfl⟩
theorem dX8_isIn_14 : uD 1 cX8_isIn 14 (.iconst 0) 15 := ⟨by decide +kernel, rfl⟩
theorem dX8_isIn_15 : uD 1 cX8_isIn 15 (.ireturn) 16 := ⟨by decide +kernel, rfl⟩
theorem dX8_may_0 : uD 1 cX8_may 0 (.iload_n 1) 1 := ⟨by decide +kernel, rfl⟩
theorem dX8_may_1 : uJ cX8_may 1 (fun o => .ifCond .ne o) 16 4 := ⟨15, by decide +kernel, by decide, rfl⟩
theorem dX8_may_4 : uD 1 cX8_may 4 (.aload_n 0) 5 := ⟨by decide +kernel, rfl⟩
theorem dX8_may_5 : uD 3 cX8_may 5 (.getfield 49) 8 := ⟨by decide +kernel, rfl⟩
theorem dX8_may_8 : uJ cX8_may 8 (fun o => .ifCond .ne o) 16 11 := ⟨8, by decide +kernel, by decide, rfl⟩
theorem dX8_may_11 : uD 1 cX8_may 11 (.aload_n 0) 12 := ⟨by decide +kernel, rfl⟩
theorem dX8_may_12 : uD 1 cX8_may 12 (.iload_n 2) 13 := ⟨by decide +kernel, rfl⟩
theorem dX8_may_13 : uD 3 cX8_may 13 (.putfield 49) 16 := ⟨by decide +kernel, rfl⟩
theorem dX8_may_16 : uD 1 cX8_may 16 (.aload_n 0) 17 := ⟨by decide +kernel, rfl⟩
theorem dX8_may_17 : uD 3 cX8_may 17 (.getfield 49) 20 := ⟨by decide +kernel, rfl⟩
theorem dX8_may_20 : uJ cX8_may 20 (fun o => .ifCond .ne o) 27 23 := ⟨7, by decide +kernel, by decide, rfl⟩
theorem dX8_may_23 : uD 1 cX8_may 23 (.iconst 1) 24 := ⟨by decide +kernel, rfl⟩
theorem dX8_may_24 : uJ cX8_may 24 (fun o => .goto o) 28 27 := ⟨4, by decide +kernel, by decide, rfl⟩
theorem dX8_may_27 : uD 1 cX8_may 27 (.iconst 0) 28 := ⟨by decide +kernel, rfl⟩
theorem dX8_may_28 : uD 1 cX8_may 28 (.ireturn) 29 := ⟨by decide +kernel, rfl⟩
theorem dX8_has_0 : uD 1 cX8_has 0 (.iload_n 0) 1 := ⟨by decide +kernel, rfl⟩
theorem dX8_has_1 : uD 1 cX8_has 1 (.iload_n 1) 2 := ⟨by decide +kernel, rfl⟩
theorem dX8_has_2 : uD 1 cX8_has 2 (.ishr) 3 := ⟨by decide +kernel, rfl⟩
theorem dX8_has_3 : uD 1 cX8_has 3 (.iconst 1) 4 := ⟨by decide +kernel, rfl⟩
theorem dX8_has_4 : uD 1 cX8_has 4 (.iand) 5 := ⟨by decide +kernel, rfl⟩
theorem dX8_has_5 : uD 1 cX8_has 5 (.iconst 1) 6 := ⟨by decide +kernel, rfl⟩
theorem dX8_has_6 : uJ cX8_has 6 (fun o => .if_icmp .ne o) 13 9 := ⟨7, by decide +kernel, by decide, rfl⟩
theorem dX8_has_9 : uD 1 cX8_has 9 (.iconst 1) 10 := ⟨by decide +kernel, rfl⟩
theorem dX8_has_10 : uJ cX8_has 10 (fun o => .goto o) 14 13 := ⟨4, by decide +kernel, by decide, rfl⟩
theorem dX8_has_13 : uD 1 cX8_has 13 (.iconst 0) 14 := ⟨by decide +kernel, rfl⟩
theorem dX8_has_14 : uD 1 cX8_has 14 (.ireturn) 15 := ⟨by decide +kernel, rfl⟩
theorem dX8_plain_0 : uD 1 cX8_plain 0 (.iconst 0) 1 := ⟨by decide +kernel, rfl⟩
theorem dX8_plain_1 : uD 1 cX8_plain 1 (.istore_n 1) 2 := ⟨by decide +kernel, rfl⟩
theorem dX8_plain_2 : uD 1 cX8_plain 2 (.iload_n 1) 3 := ⟨by decide +kernel, rfl⟩
theorem dX8_plain_3 : uD 2 cX8_plain 3 (.bipush 109) 5 := ⟨by decide +kernel, rfl⟩
theorem dX8_plain_5 : uJ cX8_plain 5 (fun o => .if_icmp .ge o) 21 8 := ⟨16, by decide +kernel, by decide, rfl⟩
theorem dX8_plain_8 : uD 1 cX8_plain 8 (.aload_n 0) 9 := ⟨by decide +kernel, rfl⟩
theorem dX8_plain_9 : uD 3 cX8_plain 9 (.getfield 13) 12 := ⟨by decide +kernel, rfl⟩
theorem dX8_plain_12 : uD 1 cX8_plain 12 (.iload_n 1) 13 := ⟨by decide +kernel, rfl⟩
theorem dX8_plain_13 : uD 1 cX8_plain 13 (.iconst 0) 14 := ⟨by decide +kernel, rfl⟩
theorem dX8_plain_14 : uD 1 cX8_plain 14 (.iastore) 15 := ⟨by decide +kernel, rfl⟩
theorem dX8_plain_15 : uD 3 cX8_plain 15 (.iinc 1 1) 18 := ⟨by decide +kernel, rfl⟩
theorem dX8_plain_18 : uJ cX8_plain 18 (fun o => .goto o) 2 21 := ⟨(-16), by decide +kernel, by decide, rfl⟩
theorem dX8_plain_21 : uD 1 cX8_plain 21 (.aload_n 0) 22 := ⟨by decide +kernel, rfl⟩
theorem dX8_plain_22 : uD 3 cX8_plain 22 (.getfield 13) 25 := ⟨by decide +kernel, rfl⟩
theorem dX8_plain_25 : uD 2 cX8_plain 25 (.bipush 6) 27 := ⟨by decide +kernel, rfl⟩
theorem dX8_plain_27 : uD 2 cX8_plain 27 (.bipush 24) 29 := ⟨by decide +kernel, rfl⟩
theorem dX8_plain_29 : uD 1 cX8_plain 29 (.iastore) 30 := ⟨by decide +kernel, rfl⟩
theorem dX8_plain_30 : uD 1 cX8_plain 30 (.aload_n 0) 31 := ⟨by decide +kernel, rfl⟩
theorem dX8_plain_31 : uD 3 cX8_plain 31 (.getfield 13) 34 := ⟨by decide +kernel, rfl⟩
theorem dX8_plain_34 : uD 2 cX8_plain 34 (.bipush 27) 36 := ⟨by decide +kernel, rfl⟩
theorem dX8_plain_36 : uD 1 cX8_plain 36 (.iconst 1) 37 := ⟨by decide +kernel, rfl⟩
theorem dX8_plain_37 : uD 1 cX8_plain 37 (.iastore) 38 := ⟨by decide +kernel, rfl⟩
theorem dX8_plain_38 : uD 1 cX8_plain 38 (.return_) 39 := ⟨by decide +kernel, rfl⟩
theorem dX8_takes_0 : uD 1 cX8_takes 0 (.iconst 0) 1 := ⟨by decide +kernel, rfl⟩
theorem dX8_takes_1 : uD 1 cX8_takes 1 (.istore_n 1) 2 := ⟨by decide +kernel, rfl⟩
theorem dX8_takes_2 : uD 1 cX8_takes 2 (.iload_n 1) 3 := ⟨by decide +kernel, rfl⟩
theorem dX8_takes_3 : uD 2 cX8_takes 3 (.bipush 109) 5 := ⟨by decide +kernel, rfl⟩
theorem dX8_takes_5 : uJ cX8_takes 5 (fun o => .if_icmp .ge o) 26 8 := ⟨21, by decide +kernel, by decide, rfl⟩
theorem dX8_takes_8 : uD 1 cX8_takes 8 (.aload_n 0) 9 := ⟨by decide +kernel, rfl⟩
theorem dX8_takes_9 : uD 3 cX8_takes 9 (.getfield 7) 12 := ⟨by decide +kernel, rfl⟩
theorem dX8_takes_12 : uD 1 cX8_takes 12 (.iload_n 1) 13 := ⟨by decide +kernel, rfl⟩
theorem dX8_takes_13 : uD 1 cX8_takes 13 (.aload_n 0) 14 := ⟨by decide +kernel, rfl⟩
theorem dX8_takes_14 : uD 3 cX8_takes 14 (.getfield 13) 17 := ⟨by decide +kernel, rfl⟩
theorem dX8_takes_17 : uD 1 cX8_takes 17 (.iload_n 1) 18 := ⟨by decide +kernel, rfl⟩
theorem dX8_takes_18 : uD 1 cX8_takes 18 (.iaload) 19 := ⟨by decide +kernel, rfl⟩
theorem dX8_takes_19 : uD 1 cX8_takes 19 (.iastore) 20 := ⟨by decide +kernel, rfl⟩
theorem dX8_takes_20 : uD 3 cX8_takes 20 (.iinc 1 1) 23 := ⟨by decide +kernel, rfl⟩
theorem dX8_takes_23 : uJ cX8_takes 23 (fun o => .goto o) 2 26 := ⟨(-21), by decide +kernel, by decide, rfl⟩
theorem dX8_takes_26 : uD 1 cX8_takes 26 (.aload_n 0) 27 := ⟨by decide +kernel, rfl⟩
theorem dX8_takes_27 : uD 3 cX8_takes 27 (.getfield 22) 30 := ⟨by decide +kernel, rfl⟩
theorem dX8_takes_30 : uD 1 cX8_takes 30 (.iconst 0) 31 := ⟨by decide +kernel, rfl⟩
theorem dX8_takes_31 : uD 1 cX8_takes 31 (.iconst 0) 32 := ⟨by decide +kernel, rfl⟩
theorem dX8_takes_32 : uD 1 cX8_takes 32 (.bastore) 33 := ⟨by decide +kernel, rfl⟩
theorem dX8_takes_33 : uD 1 cX8_takes 33 (.aload_n 0) 34 := ⟨by decide +kernel, rfl⟩
theorem dX8_takes_34 : uD 3 cX8_takes 34 (.getfield 22) 37 := ⟨by decide +kernel, rfl⟩
theorem dX8_takes_37 : uD 1 cX8_takes 37 (.iconst 1) 38 := ⟨by decide +kernel, rfl⟩
theorem dX8_takes_38 : uD 1 cX8_takes 38 (.iconst 0) 39 := ⟨by decide +kernel, rfl⟩
theorem dX8_takes_39 : uD 1 cX8_takes 39 (.bastore) 40 := ⟨by decide +kernel, rfl⟩
theorem dX8_takes_40 : uD 1 cX8_takes 40 (.return_) 41 := ⟨by decide +kernel, rfl⟩
theorem dX8_append_0 : uD 1 cX8_append 0 (.aload_n 0) 1 := ⟨by decide +kernel, rfl⟩
theorem dX8_append_1 : uD 1 cX8_append 1 (.iconst 0) 2 := ⟨by decide +kernel, rfl⟩
theorem dX8_append_2 : uD 3 cX8_append 2 (.putfield 49) 5 := ⟨by decide +kernel, rfl⟩
theorem dX8_append_5 : uD 1 cX8_append 5 (.aload_n 0) 6 := ⟨by decide +kernel, rfl⟩
theorem dX8_append_6 : uD 1 cX8_append 6 (.aload_n 0) 7 := ⟨by decide +kernel, rfl⟩
theorem dX8_append_7 : uD 3 cX8_append 7 (.getfield 52) 10 := ⟨by decide +kernel, rfl⟩
theorem dX8_append_10 : uD 2 cX8_append 10 (.bipush 20) 12 := ⟨by decide +kernel, rfl⟩
theorem dX8_append_12 : uD 1 cX8_append 12 (.iadd) 13 := ⟨by decide +kernel, rfl⟩
theorem dX8_append_13 : uD 3 cX8_append 13 (.sipush 400) 16 := ⟨by decide +kernel, rfl⟩
theorem dX8_append_16 : uJ cX8_append 16 (fun o => .if_icmp .gt o) 23 19 := ⟨7, by decide +kernel, by decide, rfl⟩
theorem dX8_append_19 : uD 1 cX8_append 19 (.iconst 1) 20 := ⟨by decide +kernel, rfl⟩
theorem dX8_append_20 : uJ cX8_append 20 (fun o => .goto o) 24 23 := ⟨4, by decide +kernel, by decide, rfl⟩
theorem dX8_append_23 : uD 1 cX8_append 23 (.iconst 0) 24 := ⟨by decide +kernel, rfl⟩
theorem dX8_append_24 : uD 1 cX8_append 24 (.iconst 1) 25 := ⟨by decide +kernel, rfl⟩
theorem dX8_append_25 : uD 3 cX8_append 25 (.invokevirtual 55) 28 := ⟨by decide +kernel, rfl⟩
theorem dX8_append_28 : uJ cX8_append 28 (fun o => .ifCond .ne o) 33 31 := ⟨5, by decide +kernel, by decide, rfl⟩
theorem dX8_append_31 : uD 1 cX8_append 31 (.iconst 0) 32 := ⟨by decide +kernel, rfl⟩
theorem dX8_append_32 : uD 1 cX8_append 32 (.ireturn) 33 := ⟨by decide +kernel, rfl⟩
theorem dX8_append_33 : uD 1 cX8_append 33 (.iconst 0) 34 := ⟨by decide +kernel, rfl⟩
theorem dX8_append_34 : uD 2 cX8_append 34 (.istore 6) 36 := ⟨by decide +kernel, rfl⟩
theorem dX8_append_36 : uD 2 cX8_append 36 (.iload 6) 38 := ⟨by decide +kernel, rfl⟩
theorem dX8_append_38 : uD 2 cX8_append 38 (.bipush 20) 40 := ⟨by decide +kernel, rfl⟩
theorem dX8_append_40 : uJ cX8_append 40 (fun o => .if_icmp .ge o) 126 43 := ⟨86, by decide +kernel, by decide, rfl⟩
theorem dX8_append_43 : uD 2 cX8_append 43 (.iload 6) 45 := ⟨by decide +kernel, rfl⟩
theorem dX8_append_45 : uD 1 cX8_append 45 (.iconst 4) 46 := ⟨by decide +kernel, rfl⟩
theorem dX8_append_46 : uJ cX8_append 46 (fun o => .if_icmp .ge o) 53 49 := ⟨7, by decide +kernel, by decide, rfl⟩
theorem dX8_append_49 : uD 1 cX8_append 49 (.iload_n 1) 50 := ⟨by decide +kernel, rfl⟩
theorem dX8_append_50 : uJ cX8_append 50 (fun o => .goto o) 89 53 := ⟨39, by decide +kernel, by decide, rfl⟩
theorem dX8_append_53 : uD 2 cX8_append 53 (.iload 6) 55 := ⟨by decide +kernel, rfl⟩
theorem dX8_append_55 : uD 2 cX8_append 55 (.bipush 8) 57 := ⟨by decide +kernel, rfl⟩
theorem dX8_append_57 : uJ cX8_append 57 (fun o => .if_icmp .ge o) 64 60 := ⟨7, by decide +kernel, by decide, rfl⟩
theorem dX8_append_60 : uD 1 cX8_append 60 (.iload_n 2) 61 := ⟨by decide +kernel, rfl⟩
theorem dX8_append_61 : uJ cX8_append 61 (fun o => .goto o) 89 64 := ⟨28, by decide +kernel, by decide, rfl⟩
theorem dX8_append_64 : uD 2 cX8_append 64 (.iload 6) 66 := ⟨by decide +kernel, rfl⟩
theorem dX8_append_66 : uD 2 cX8_append 66 (.bipush 12) 68 := ⟨by decide +kernel, rfl⟩
theorem dX8_append_68 : uJ cX8_append 68 (fun o => .if_icmp .ge o) 75 71 := ⟨7, by decide +kernel, by decide, rfl⟩
theorem dX8_append_71 : uD 1 cX8_append 71 (.iload_n 3) 72 := ⟨by decide +kernel, rfl⟩
theorem dX8_append_72 : uJ cX8_append 72 (fun o => .goto o) 89 75 := ⟨17, by decide +kernel, by decide, rfl⟩
theorem dX8_append_75 : uD 2 cX8_append 75 (.iload 6) 77 := ⟨by decide +kernel, rfl⟩
theorem dX8_append_77 : uD 2 cX8_append 77 (.bipush 16) 79 := ⟨by decide +kernel, rfl⟩
theorem dX8_append_79 : uJ cX8_append 79 (fun o => .if_icmp .ge o) 87 82 := ⟨8, by decide +kernel, by decide, rfl⟩
theorem dX8_append_82 : uD 2 cX8_append 82 (.iload 4) 84 := ⟨by decide +kernel, rfl⟩
theorem dX8_append_84 : uJ cX8_append 84 (fun o => .goto o) 89 87 := ⟨5, by decide +kernel, by decide, rfl⟩
theorem dX8_append_87 : uD 2 cX8_append 87 (.iload 5) 89 := ⟨by decide +kernel, rfl⟩
theorem dX8_append_89 : uD 2 cX8_append 89 (.istore 7) 91 := ⟨by decide +kernel, rfl⟩
theorem dX8_append_91 : uD 1 cX8_append 91 (.aload_n 0) 92 := ⟨by decide +kernel, rfl⟩
theorem dX8_append_92 : uD 3 cX8_append 92 (.getfield 26) 95 := ⟨by decide +kernel, rfl⟩
theorem dX8_append_95 : uD 1 cX8_append 95 (.aload_n 0) 96 := ⟨by decide +kernel, rfl⟩
theorem dX8_append_96 : uD 3 cX8_append 96 (.getfield 52) 99 := ⟨by decide +kernel, rfl⟩
theorem dX8_append_99 : uD 2 cX8_append 99 (.iload 6) 101 := ⟨by decide +kernel, rfl⟩
theorem dX8_append_101 : uD 1 cX8_append 101 (.iadd) 102 := ⟨by decide +kernel, rfl⟩
theorem dX8_append_102 : uD 2 cX8_append 102 (.iload 7) 104 := ⟨by decide +kernel, rfl⟩
theorem dX8_append_104 : uD 2 cX8_append 104 (.bipush 24) 106 := ⟨by decide +kernel, rfl⟩
theorem dX8_append_106 : uD 2 cX8_append 106 (.bipush 8) 108 := ⟨by decide +kernel, rfl⟩
theorem dX8_append_108 : uD 2 cX8_append 108 (.iload 6) 110 := ⟨by decide +kernel, rfl⟩
theorem dX8_append_110 : uD 1 cX8_append 110 (.iconst 4) 111 := ⟨by decide +kernel, rfl⟩
theorem dX8_append_111 : uD 1 cX8_append 111 (.irem) 112 := ⟨by decide +kernel, rfl⟩
theorem dX8_append_112 : uD 1 cX8_append 112 (.imul) 113 := ⟨by decide +kernel, rfl⟩
theorem dX8_append_113 : uD 1 cX8_append 113 (.isub) 114 := ⟨by decide +kernel, rfl⟩
theorem dX8_append_114 : uD 1 cX8_append 114 (.ishr) 115 := ⟨by decide +kernel, rfl⟩
theorem dX8_append_115 : uD 3 cX8_append 115 (.sipush 255) 118 := ⟨by decide +kernel, rfl⟩
theorem dX8_append_118 : uD 1 cX8_append 118 (.iand) 119 := ⟨by decide +kernel, rfl⟩
theorem dX8_append_119 : uD 1 cX8_append 119 (.iastore) 120 := ⟨by decide +kernel, rfl⟩
theorem dX8_append_120 : uD 3 cX8_append 120 (.iinc 6 1) 123 := ⟨by decide +kernel, rfl⟩
theorem dX8_append_123 : uJ cX8_append 123 (fun o => .goto o) 36 126 := ⟨(-87), by decide +kernel, by decide, rfl⟩
theorem dX8_append_126 : uD 1 cX8_append 126 (.aload_n 0) 127 := ⟨by decide +kernel, rfl⟩
theorem dX8_append_127 : uD 1 cX8_append 127 (.dup) 128 := ⟨by decide +kernel, rfl⟩
theorem dX8_append_128 : uD 3 cX8_append 128 (.getfield 52) 131 := ⟨by decide +kernel, rfl⟩
theorem dX8_append_131 : uD 2 cX8_append 131 (.bipush 20) 133 := ⟨by decide +kernel, rfl⟩
theorem dX8_append_133 : uD 1 cX8_append 133 (.iadd) 134 := ⟨by decide +kernel, rfl⟩
theorem dX8_append_134 : uD 3 cX8_append 134 (.putfield 52) 137 := ⟨by decide +kernel, rfl⟩
theorem dX8_append_137 : uD 1 cX8_append 137 (.aload_n 0) 138 := ⟨by decide +kernel, rfl⟩
theorem dX8_append_138 : uD 3 cX8_append 138 (.getfield 52) 141 := ⟨by decide +kernel, rfl⟩
theorem dX8_append_141 : uD 1 cX8_append 141 (.ireturn) 142 := ⟨by decide +kernel, rfl⟩
theorem dX8_truncate_0 : uD 1 cX8_truncate 0 (.aload_n 0) 1 := ⟨by decide +kernel, rfl⟩
theorem dX8_truncate_1 : uD 1 cX8_truncate 1 (.iconst 0) 2 := ⟨by decide +kernel, rfl⟩
theorem dX8_truncate_2 : uD 3 cX8_truncate 2 (.putfield 49) 5 := ⟨by decide +kernel, rfl⟩
theorem dX8_truncate_5 : uD 1 cX8_truncate 5 (.aload_n 0) 6 := ⟨by decide +kernel, rfl⟩
theorem dX8_truncate_6 : uD 1 cX8_truncate 6 (.iload_n 1) 7 := ⟨by decide +kernel, rfl⟩
theorem dX8_truncate_7 : uD 1 cX8_truncate 7 (.iconst 0) 8 := ⟨by decide +kernel, rfl⟩
theorem dX8_truncate_8 : uD 1 cX8_truncate 8 (.aload_n 0) 9 := ⟨by decide +kernel, rfl⟩
theorem dX8_truncate_9 : uD 3 cX8_truncate 9 (.getfield 52) 12 := ⟨by decide +kernel, rfl⟩
theorem dX8_truncate_12 : uD 3 cX8_truncate 12 (.invokestatic 59) 15 := ⟨by decide +kernel, rfl⟩
theorem dX8_truncate_15 : uD 1 cX8_truncate 15 (.iconst 1) 16 := ⟨by decide +kernel, rfl⟩
theorem dX8_truncate_16 : uD 3 cX8_truncate 16 (.invokevirtual 55) 19 := ⟨by decide +kernel, rfl⟩
theorem dX8_truncate_19 : uJ cX8_truncate 19 (fun o => .ifCond .ne o) 24 22 := ⟨5, by decide +kernel, by decide, rfl⟩
theorem dX8_truncate_22 : uD 1 cX8_truncate 22 (.iconst 0) 23 := ⟨by decide +kernel, rfl⟩
theorem dX8_truncate_23 : uD 1 cX8_truncate 23 (.ireturn) 24 := ⟨by decide +kernel, rfl⟩
theorem dX8_truncate_24 : uD 1 cX8_truncate 24 (.aload_n 0) 25 := ⟨by decide +kernel, rfl⟩
theorem dX8_truncate_25 : uD 1 cX8_truncate 25 (.iload_n 1) 26 := ⟨by decide +kernel, rfl⟩
theorem dX8_truncate_26 : uD 3 cX8_truncate 26 (.putfield 52) 29 := ⟨by decide +kernel, rfl⟩
theorem dX8_truncate_29 : uD 1 cX8_truncate 29 (.iload_n 1) 30 := ⟨by decide +kernel, rfl⟩
theorem dX8_truncate_30 : uD 1 cX8_truncate 30 (.ireturn) 31 := ⟨by decide +kernel, rfl⟩
theorem dX8_at_0 : uD 1 cX8_at 0 (.iload_n 1) 1 := ⟨by decide +kernel, rfl⟩
theorem dX8_at_1 : uD 1 cX8_at 1 (.aload_n 0) 2 := ⟨by decide +kernel, rfl⟩
theorem dX8_at_2 : uD 3 cX8_at 2 (.getfield 63) 5 := ⟨by decide +kernel, rfl⟩
theorem dX8_at_5 : uJ cX8_at 5 (fun o => .if_icmp .ge o) 17 8 := ⟨12, by decide +kernel, by decide, rfl⟩
theorem dX8_at_8 : uD 1 cX8_at 8 (.aload_n 0) 9 := ⟨by decide +kernel, rfl⟩
theorem dX8_at_9 : uD 3 cX8_at 9 (.getfield 26) 12 := ⟨by decide +kernel, rfl⟩
theorem dX8_at_12 : uD 1 cX8_at 12 (.iload_n 1) 13 := ⟨by decide +kernel, rfl⟩
theorem dX8_at_13 : uD 1 cX8_at 13 (.iaload) 14 := ⟨by decide +kernel, rfl⟩
theorem dX8_at_14 : uJ cX8_at 14 (fun o => .goto o) 18 17 := ⟨4, by decide +kernel, by decide, rfl⟩
theorem dX8_at_17 : uD 1 cX8_at 17 (.iconst (-1)) 18 := ⟨by decide +kernel, rfl⟩
theorem dX8_at_18 : uD 1 cX8_at 18 (.ireturn) 19 := ⟨by decide +kernel, rfl⟩
theorem dX8_isLetter_0 : uD 1 cX8_isLetter 0 (.iload_n 0) 1 := ⟨by decide +kernel, rfl⟩
theorem dX8_isLetter_1 : uD 2 cX8_isLetter 1 (.bipush 97) 3 := ⟨by decide +kernel, rfl⟩
theorem dX8_isLetter_3 : uJ cX8_isLetter 3 (fun o => .if_icmp .lt o) 16 6 := ⟨13, by decide +kernel, by decide, rfl⟩
theorem dX8_isLetter_6 : uD 1 cX8_isLetter 6 (.iload_n 0) 7 := ⟨by decide +kernel, rfl⟩
theorem dX8_isLetter_7 : uD 2 cX8_isLetter 7 (.bipush 122) 9 := ⟨by decide +kernel, rfl⟩
theorem dX8_isLetter_9 : uJ cX8_isLetter 9 (fun o => .if_icmp .gt o) 16 12 := ⟨7, by decide +kernel, by decide, rfl⟩
theorem dX8_isLetter_12 : uD 1 cX8_isLetter 12 (.iconst 1) 13 := ⟨by decide +kernel, rfl⟩
theorem dX8_isLetter_13 : uJ cX8_isLetter 13 (fun o => .goto o) 17 16 := ⟨4, by decide +kernel, by decide, rfl⟩
theorem dX8_isLetter_16 : uD 1 cX8_isLetter 16 (.iconst 0) 17 := ⟨by decide +kernel, rfl⟩
theorem dX8_isLetter_17 : uD 1 cX8_isLetter 17 (.ireturn) 18 := ⟨by decide +kernel, rfl⟩
theorem dX8_isDigit_0 : uD 1 cX8_isDigit 0 (.iload_n 0) 1 := ⟨by decide +kernel, rfl⟩
theorem dX8_isDigit_1 : uD 2 cX8_isDigit 1 (.bipush 48) 3 := ⟨by decide +kernel, rfl⟩
theorem dX8_isDigit_3 : uJ cX8_isDigit 3 (fun o => .if_icmp .lt o) 16 6 := ⟨13, by decide +kernel, by decide, rfl⟩
theorem dX8_isDigit_6 : uD 1 cX8_isDigit 6 (.iload_n 0) 7 := ⟨by decide +kernel, rfl⟩
theorem dX8_isDigit_7 : uD 2 cX8_isDigit 7 (.bipush 57) 9 := ⟨by decide +kernel, rfl⟩
theorem dX8_isDigit_9 : uJ cX8_isDigit 9 (fun o => .if_icmp .gt o) 16 12 := ⟨7, by decide +kernel, by decide, rfl⟩
theorem dX8_isDigit_12 : uD 1 cX8_isDigit 12 (.iconst 1) 13 := ⟨by decide +kernel, rfl⟩
theorem dX8_isDigit_13 : uJ cX8_isDigit 13 (fun o => .goto o) 17 16 := ⟨4, by decide +kernel, by decide, rfl⟩
theorem dX8_isDigit_16 : uD 1 cX8_isDigit 16 (.iconst 0) 17 := ⟨by decide +kernel, rfl⟩
theorem dX8_isDigit_17 : uD 1 cX8_isDigit 17 (.ireturn) 18 := ⟨by decide +kernel, rfl⟩
theorem dX8_token_0 : uD 1 cX8_token 0 (.aload_n 0) 1 := ⟨by decide +kernel, rfl⟩
theorem dX8_token_1 : uD 1 cX8_token 1 (.aload_n 0) 2 := ⟨by decide +kernel, rfl⟩
theorem dX8_token_2 : uD 3 cX8_token 2 (.getfield 66) 5 := ⟨by decide +kernel, rfl⟩
theorem dX8_token_5 : uD 3 cX8_token 5 (.invokevirtual 69) 8 := ⟨by decide +kernel, rfl⟩
theorem dX8_token_8 : uD 2 cX8_token 8 (.bipush 10) 10 := ⟨by decide +kernel, rfl⟩
theorem dX8_token_10 : uJ cX8_token 10 (fun o => .if_icmp .eq o) 26 13 := ⟨16, by decide +kernel, by decide, rfl⟩
theorem dX8_token_13 : uD 1 cX8_token 13 (.aload_n 0) 14 := ⟨by decide +kernel, rfl⟩
theorem dX8_token_14 : uD 1 cX8_token 14 (.aload_n 0) 15 := ⟨by decide +kernel, rfl⟩
theorem dX8_token_15 : uD 3 cX8_token 15 (.getfield 66) 18 := ⟨by decide +kernel, rfl⟩
theorem dX8_token_18 : uD 3 cX8_token 18 (.invokevirtual 69) 21 := ⟨by decide +kernel, rfl⟩
theorem dX8_token_21 : uD 2 cX8_token 21 (.bipush 32) 23 := ⟨by decide +kernel, rfl⟩
theorem dX8_token_23 : uJ cX8_token 23 (fun o => .if_icmp .ne o) 39 26 := ⟨16, by decide +kernel, by decide, rfl⟩
theorem dX8_token_26 : uD 1 cX8_token 26 (.aload_n 0) 27 := ⟨by decide +kernel, rfl⟩
theorem dX8_token_27 : uD 1 cX8_token 27 (.dup) 28 := ⟨by decide +kernel, rfl⟩
theorem dX8_token_28 : uD 3 cX8_token 28 (.getfield 66) 31 := ⟨by decide +kernel, rfl⟩
theorem dX8_token_31 : uD 1 cX8_token 31 (.iconst 1) 32 := ⟨by decide +kernel, rfl⟩
theorem dX8_token_32 : uD 1 cX8_token 32 (.iadd) 33 := ⟨by decide +kernel, rfl⟩
theorem dX8_token_33 : uD 3 cX8_token 33 (.putfield 66) 36 := ⟨by decide +kernel, rfl⟩
theorem dX8_token_36 : uJ cX8_token 36 (fun o => .goto o) 0 39 := ⟨(-36), by decide +kernel, by decide, rfl⟩
theorem dX8_token_39 : uD 1 cX8_token 39 (.aload_n 0) 40 := ⟨by decide +kernel, rfl⟩
theorem dX8_token_40 : uD 1 cX8_token 40 (.aload_n 0) 41 := ⟨by decide +kernel, rfl⟩
theorem dX8_token_41 : uD 3 cX8_token 41 (.getfield 66) 44 := ⟨by decide +kernel, rfl⟩
theorem dX8_token_44 : uD 3 cX8_token 44 (.putfield 73) 47 := ⟨by decide +kernel, rfl⟩
theorem dX8_token_47 : uD 1 cX8_token 47 (.aload_n 0) 48 := ⟨by decide +kernel, rfl⟩
theorem dX8_token_48 : uD 1 cX8_token 48 (.aload_n 0) 49 := ⟨by decide +kernel, rfl⟩
theorem dX8_token_49 : uD 3 cX8_token 49 (.getfield 66) 52 := ⟨by decide +kernel, rfl⟩
theorem dX8_token_52 : uD 3 cX8_token 52 (.invokevirtual 69) 55 := ⟨by decide +kernel, rfl⟩
theorem dX8_token_55 : uD 1 cX8_token 55 (.istore_n 1) 56 := ⟨by decide +kernel, rfl⟩
theorem dX8_token_56 : uD 1 cX8_token 56 (.iload_n 1) 57 := ⟨by decide +kernel, rfl⟩
theorem dX8_token_57 : uD 1 cX8_token 57 (.iconst (-1)) 58 := ⟨by decide +kernel, rfl⟩
theorem dX8_token_58 : uJ cX8_token 58 (fun o => .if_icmp .ne o) 69 61 := ⟨11, by decide +kernel, by decide, rfl⟩
theorem dX8_token_61 : uD 1 cX8_token 61 (.aload_n 0) 62 := ⟨by decide +kernel, rfl⟩
theorem dX8_token_62 : uD 1 cX8_token 62 (.iconst 0) 63 := ⟨by decide +kernel, rfl⟩
theorem dX8_token_63 : uD 3 cX8_token 63 (.putfield 76) 66 := ⟨by decide +kernel, rfl⟩
theorem dX8_token_66 : uJ cX8_token 66 (fun o => .goto o) 236 69 := ⟨170, by decide +kernel, by decide, rfl⟩
theorem dX8_token_69 : uD 1 cX8_token 69 (.iload_n 1) 70 := ⟨by decide +kernel, rfl⟩
theorem dX8_token_70 : uD 3 cX8_token 70 (.invokestatic 79) 73 := ⟨by decide +kernel, rfl⟩
theorem dX8_token_73 : uJ cX8_token 73 (fun o => .ifCond .eq o) 111 76 := ⟨38, by decide +kernel, by decide, rfl⟩
theorem dX8_token_76 : uD 1 cX8_token 76 (.aload_n 0) 77 := ⟨by decide +kernel, rfl⟩
theorem dX8_token_77 : uD 1 cX8_token 77 (.aload_n 0) 78 := ⟨by decide +kernel, rfl⟩
theorem dX8_token_78 : uD 3 cX8_token 78 (.getfield 66) 81 := ⟨by decide +kernel, rfl⟩
theorem dX8_token_81 : uD 3 cX8_token 81 (.invokevirtual 69) 84 := ⟨by decide +kernel, rfl⟩
theorem dX8_token_84 : uD 3 cX8_token 84 (.invokestatic 79) 87 := ⟨by decide +kernel, rfl⟩
theorem dX8_token_87 : uJ cX8_token 87 (fun o => .ifCond .eq o) 103 90 := ⟨16, by decide +kernel, by decide, rfl⟩
theorem dX8_token_90 : uD 1 cX8_token 90 (.aload_n 0) 91 := ⟨by decide +kernel, rfl⟩
theorem dX8_token_91 : uD 1 cX8_token 91 (.dup) 92 := ⟨by decide +kernel, rfl⟩
theorem dX8_token_92 : uD 3 cX8_token 92 (.getfield 66) 95 := ⟨by decide +kernel, rfl⟩
theorem dX8_token_95 : uD 1 cX8_token 95 (.iconst 1) 96 := ⟨by decide +kernel, rfl⟩
theorem dX8_token_96 : uD 1 cX8_token 96 (.iadd) 97 := ⟨by decide +kernel, rfl⟩
theorem dX8_token_97 : uD 3 cX8_token 97 (.putfield 66) 100 := ⟨by decide +kernel, rfl⟩
theorem dX8_token_100 : uJ cX8_token 100 (fun o => .goto o) 76 103 := ⟨(-24), by decide +kernel, by decide, rfl⟩
theorem dX8_token_103 : uD 1 cX8_token 103 (.aload_n 0) 104 := ⟨by decide +kernel, rfl⟩
theorem dX8_token_104 : uD 1 cX8_token 104 (.iconst 1) 105 := ⟨by decide +kernel, rfl⟩
theorem dX8_token_105 : uD 3 cX8_token 105 (.putfield 76) 108 := ⟨by decide +kernel, rfl⟩
theorem dX8_token_108 : uJ cX8_token 108 (fun o => .goto o) 236 111 := ⟨128, by decide +kernel, by decide, rfl⟩
theorem dX8_token_111 : uD 1 cX8_token 111 (.iload_n 1) 112 := ⟨by decide +kernel, rfl⟩
theorem dX8_token_112 : uD 3 cX8_token 112 (.invokestatic 83) 115 := ⟨by decide +kernel, rfl⟩
theorem dX8_token_115 : uJ cX8_token 115 (fun o => .ifCond .eq o) 211 118 := ⟨96, by decide +kernel, by decide, rfl⟩
theorem dX8_token_118 : uD 1 cX8_token 118 (.aload_n 0) 119 := ⟨by decide +kernel, rfl⟩
theorem dX8_token_119 : uD 1 cX8_token 119 (.iconst 0) 120 := ⟨by decide +kernel, rfl⟩
theorem dX8_token_120 : uD 3 cX8_token 120 (.putfield 86) 123 := ⟨by decide +kernel, rfl⟩
theorem dX8_token_123 : uD 1 cX8_token 123 (.aload_n 0) 124 := ⟨by decide +kernel, rfl⟩
theorem dX8_token_124 : uD 1 cX8_token 124 (.aload_n 0) 125 := ⟨by decide +kernel, rfl⟩
theorem dX8_token_125 : uD 3 cX8_token 125 (.getfield 66) 128 := ⟨by decide +kernel, rfl⟩
theorem dX8_token_128 : uD 3 cX8_token 128 (.invokevirtual 69) 131 := ⟨by decide +kernel, rfl⟩
theorem dX8_token_131 : uD 3 cX8_token 131 (.invokestatic 83) 134 := ⟨by decide +kernel, rfl⟩
theorem dX8_token_134 : uJ cX8_token 134 (fun o => .ifCond .eq o) 186 137 := ⟨52, by decide +kernel, by decide, rfl⟩
theorem dX8_token_137 : uD 1 cX8_token 137 (.aload_n 0) 138 := ⟨by decide +kernel, rfl⟩
theorem dX8_token_138 : uD 3 cX8_token 138 (.getfield 66) 141 := ⟨by decide +kernel, rfl⟩
theorem dX8_token_141 : uD 1 cX8_token 141 (.aload_n 0) 142 := ⟨by decide +kernel, rfl⟩
theorem dX8_token_142 : uD 3 cX8_token 142 (.getfield 73) 145 := ⟨by decide +kernel, rfl⟩
theorem dX8_token_145 : uD 1 cX8_token 145 (.isub) 146 := ⟨by decide +kernel, rfl⟩
theorem dX8_token_146 : uD 1 cX8_token 146 (.iconst 4) 147 := ⟨by decide +kernel, rfl⟩
theorem dX8_token_147 : uJ cX8_token 147 (fun o => .if_icmp .ge o) 173 150 := ⟨26, by decide +kernel, by decide, rfl⟩
theorem dX8_token_150 : uD 1 cX8_token 150 (.aload_n 0) 151 := ⟨by decide +kernel, rfl⟩
theorem dX8_token_151 : uD 2 cX8_token 151 (.bipush 10) 153 := ⟨by decide +kernel, rfl⟩
theorem dX8_token_153 : uD 1 cX8_token 153 (.aload_n 0) 154 := ⟨by decide +kernel, rfl⟩
theorem dX8_token_154 : uD 3 cX8_token 154 (.getfield 86) 157 := ⟨by decide +kernel, rfl⟩
theorem dX8_token_157 : uD 1 cX8_token 157 (.imul) 158 := ⟨by decide +kernel, rfl⟩
theorem dX8_token_158 : uD 1 cX8_token 158 (.aload_n 0) 159 := ⟨by decide +kernel, rfl⟩
theorem dX8_token_159 : uD 1 cX8_token 159 (.aload_n 0) 160 := ⟨by decide +kernel, rfl⟩
theorem dX8_token_160 : uD 3 cX8_token 160 (.getfield 66) 163 := ⟨by decide +kernel, rfl⟩
theorem dX8_token_163 : uD 3 cX8_token 163 (.invokevirtual 69) 166 := ⟨by decide +kernel, rfl⟩
theorem dX8_token_166 : uD 1 cX8_token 166 (.iadd) 167 := ⟨by decide +kernel, rfl⟩
theorem dX8_token_167 : uD 2 cX8_token 167 (.bipush 48) 169 := ⟨by decide +kernel, rfl⟩
theorem dX8_token_169 : uD 1 cX8_token 169 (.isub) 170 := ⟨by decide +kernel, rfl⟩
theorem dX8_token_170 : uD 3 cX8_token 170 (.putfield 86) 173 := ⟨by decide +kernel, rfl⟩
theorem dX8_token_173 : uD 1 cX8_token 173 (.aload_n 0) 174 := ⟨by decide +kernel, rfl⟩
theorem dX8_token_174 : uD 1 cX8_token 174 (.dup) 175 := ⟨by decide +kernel, rfl⟩
theorem dX8_token_175 : uD 3 cX8_token 175 (.getfield 66) 178 := ⟨by decide +kernel, rfl⟩
theorem dX8_token_178 : uD 1 cX8_token 178 (.iconst 1) 179 := ⟨by decide +kernel, rfl⟩
theorem dX8_token_179 : uD 1 cX8_token 179 (.iadd) 180 := ⟨by decide +kernel, rfl⟩
theorem dX8_token_180 : uD 3 cX8_token 180 (.putfield 66) 183 := ⟨by decide +kernel, rfl⟩
theorem dX8_token_183 : uJ cX8_token 183 (fun o => .goto o) 123 186 := ⟨(-60), by decide +kernel, by decide, rfl⟩
theorem dX8_token_186 : uD 1 cX8_token 186 (.aload_n 0) 187 := ⟨by decide +kernel, rfl⟩
theorem dX8_token_187 : uD 1 cX8_token 187 (.aload_n 0) 188 := ⟨by decide +kernel, rfl⟩
theorem dX8_token_188 : uD 3 cX8_token 188 (.getfield 66) 191 := ⟨by decide +kernel, rfl⟩
theorem dX8_token_191 : uD 1 cX8_token 191 (.aload_n 0) 192 := ⟨by decide +kernel, rfl⟩
theorem dX8_token_192 : uD 3 cX8_token 192 (.getfield 73) 195 := ⟨by decide +kernel, rfl⟩
theorem dX8_token_195 : uD 1 cX8_token 195 (.isub) 196 := ⟨by decide +kernel, rfl⟩
theorem dX8_token_196 : uD 1 cX8_token 196 (.iconst 4) 197 := ⟨by decide +kernel, rfl⟩
theorem dX8_token_197 : uJ cX8_token 197 (fun o => .if_icmp .le o) 204 200 := ⟨7, by decide +kernel, by decide, rfl⟩
theorem dX8_token_200 : uD 1 cX8_token 200 (.iconst 4) 201 := ⟨by decide +kernel, rfl⟩
theorem dX8_token_201 : uJ cX8_token 201 (fun o => .goto o) 205 204 := ⟨4, by decide +kernel, by decide, rfl⟩
theorem dX8_token_204 : uD 1 cX8_token 204 (.iconst 2) 205 := ⟨by decide +kernel, rfl⟩
theorem dX8_token_205 : uD 3 cX8_token 205 (.putfield 76) 208 := ⟨by decide +kernel, rfl⟩
theorem dX8_token_208 : uJ cX8_token 208 (fun o => .goto o) 236 211 := ⟨28, by decide +kernel, by decide, rfl⟩
theorem dX8_token_211 : uD 1 cX8_token 211 (.aload_n 0) 212 := ⟨by decide +kernel, rfl⟩
theorem dX8_token_212 : uD 1 cX8_token 212 (.dup) 213 := ⟨by decide +kernel, rfl⟩
theorem dX8_token_213 : uD 3 cX8_token 213 (.getfield 66) 216 := ⟨by decide +kernel, rfl⟩
theorem dX8_token_216 : uD 1 cX8_token 216 (.iconst 1) 217 := ⟨by decide +kernel, rfl⟩
theorem dX8_token_217 : uD 1 cX8_token 217 (.iadd) 218 := ⟨by decide +kernel, rfl⟩
theorem dX8_token_218 : uD 3 cX8_token 218 (.putfield 66) 221 := ⟨by decide +kernel, rfl⟩
theorem dX8_token_221 : uD 1 cX8_token 221 (.aload_n 0) 222 := ⟨by decide +kernel, rfl⟩
theorem dX8_token_222 : uD 1 cX8_token 222 (.iload_n 1) 223 := ⟨by decide +kernel, rfl⟩
theorem dX8_token_223 : uD 2 cX8_token 223 (.bipush 59) 225 := ⟨by decide +kernel, rfl⟩
theorem dX8_token_225 : uJ cX8_token 225 (fun o => .if_icmp .ne o) 232 228 := ⟨7, by decide +kernel, by decide, rfl⟩
theorem dX8_token_228 : uD 1 cX8_token 228 (.iconst 3) 229 := ⟨by decide +kernel, rfl⟩
theorem dX8_token_229 : uJ cX8_token 229 (fun o => .goto o) 233 232 := ⟨4, by decide +kernel, by decide, rfl⟩
theorem dX8_token_232 : uD 1 cX8_token 232 (.iconst 4) 233 := ⟨by decide +kernel, rfl⟩
theorem dX8_token_233 : uD 3 cX8_token 233 (.putfield 76) 236 := ⟨by decide +kernel, rfl⟩
theorem dX8_token_236 : uD 1 cX8_token 236 (.return_) 237 := ⟨by decide +kernel, rfl⟩
theorem dX8_isWrong_0 : uD 1 cX8_isWrong 0 (.aload_n 0) 1 := ⟨by decide +kernel, rfl⟩
theorem dX8_isWrong_1 : uD 3 cX8_isWrong 1 (.getfield 89) 4 := ⟨by decide +kernel, rfl⟩
theorem dX8_isWrong_4 : uJ cX8_isWrong 4 (fun o => .ifCond .eq o) 11 7 := ⟨7, by decide +kernel, by decide, rfl⟩
theorem dX8_isWrong_7 : uD 1 cX8_isWrong 7 (.iconst 1) 8 := ⟨by decide +kernel, rfl⟩
theorem dX8_isWrong_8 : uJ cX8_isWrong 8 (fun o => .goto o) 12 11 := ⟨4, by decide +kernel, by decide, rfl⟩
theorem dX8_isWrong_11 : uD 1 cX8_isWrong 11 (.iconst 0) 12 := ⟨by decide +kernel, rfl⟩
theorem dX8_isWrong_12 : uD 1 cX8_isWrong 12 (.ireturn) 13 := ⟨by decide +kernel, rfl⟩
theorem dX8_fails_0 : uD 1 cX8_fails 0 (.aload_n 0) 1 := ⟨by decide +kernel, rfl⟩
theorem dX8_fails_1 : uD 3 cX8_fails 1 (.invokevirtual 92) 4 := ⟨by decide +kernel, rfl⟩
theorem dX8_fails_4 : uJ cX8_fails 4 (fun o => .ifCond .eq o) 8 7 := ⟨4, by decide +kernel, by decide, rfl⟩
theorem dX8_fails_7 : uD 1 cX8_fails 7 (.return_) 8 := ⟨by decide +kernel, rfl⟩
theorem dX8_fails_8 : uD 1 cX8_fails 8 (.aload_n 0) 9 := ⟨by decide +kernel, rfl⟩
theorem dX8_fails_9 : uD 1 cX8_fails 9 (.iload_n 1) 10 := ⟨by decide +kernel, rfl⟩
theorem dX8_fails_10 : uD 3 cX8_fails 10 (.putfield 89) 13 := ⟨by decide +kernel, rfl⟩
theorem dX8_fails_13 : uD 1 cX8_fails 13 (.aload_n 0) 14 := ⟨by decide +kernel, rfl⟩
theorem dX8_fails_14 : uD 1 cX8_fails 14 (.aload_n 0) 15 := ⟨by decide +kernel, rfl⟩
theorem dX8_fails_15 : uD 3 cX8_fails 15 (.getfield 73) 18 := ⟨by decide +kernel, rfl⟩
theorem dX8_fails_18 : uD 3 cX8_fails 18 (.putfield 29) 21 := ⟨by decide +kernel, rfl⟩
theorem dX8_fails_21 : uD 1 cX8_fails 21 (.return_) 22 := ⟨by decide +kernel, rfl⟩
theorem dX8_isWord_0 : uD 1 cX8_isWord 0 (.aload_n 0) 1 := ⟨by decide +kernel, rfl⟩
theorem dX8_isWord_1 : uD 3 cX8_isWord 1 (.invokevirtual 92) 4 := ⟨by decide +kernel, rfl⟩
theorem dX8_isWord_4 : uJ cX8_isWord 4 (fun o => .ifCond .ne o) 31 7 := ⟨27, by decide +kernel, by decide, rfl⟩
theorem dX8_isWord_7 : uD 1 cX8_isWord 7 (.aload_n 0) 8 := ⟨by decide +kernel, rfl⟩
theorem dX8_isWord_8 : uD 3 cX8_isWord 8 (.getfield 76) 11 := ⟨by decide +kernel, rfl⟩
theorem dX8_isWord_11 : uD 1 cX8_isWord 11 (.iconst 1) 12 := ⟨by decide +kernel, rfl⟩
theorem dX8_isWord_12 : uJ cX8_isWord 12 (fun o => .if_icmp .ne o) 31 15 := ⟨19, by decide +kernel, by decide, rfl⟩
theorem dX8_isWord_15 : uD 1 cX8_isWord 15 (.aload_n 0) 16 := ⟨by decide +kernel, rfl⟩
theorem dX8_isWord_16 : uD 3 cX8_isWord 16 (.getfield 66) 19 := ⟨by decide +kernel, rfl⟩
theorem dX8_isWord_19 : uD 1 cX8_isWord 19 (.aload_n 0) 20 := ⟨by decide +kernel, rfl⟩
theorem dX8_isWord_20 : uD 3 cX8_isWord 20 (.getfield 73) 23 := ⟨by decide +kernel, rfl⟩
theorem dX8_isWord_23 : uD 1 cX8_isWord 23 (.isub) 24 := ⟨by decide +kernel, rfl⟩
theorem dX8_isWord_24 : uD 1 cX8_isWord 24 (.aload_n 1) 25 := ⟨by decide +kernel, rfl⟩
theorem dX8_isWord_25 : uD 3 cX8_isWord 25 (.invokevirtual 96) 28 := ⟨by decide +kernel, rfl⟩
theorem dX8_isWord_28 : uJ cX8_isWord 28 (fun o => .if_icmp .eq o) 33 31 := ⟨5, by decide +kernel, by decide, rfl⟩
theorem dX8_isWord_31 : uD 1 cX8_isWord 31 (.iconst 0) 32 := ⟨by decide +kernel, rfl⟩
theorem dX8_isWord_32 : uD 1 cX8_isWord 32 (.ireturn) 33 := ⟨by decide +kernel, rfl⟩
theorem dX8_isWord_33 : uD 1 cX8_isWord 33 (.iconst 0) 34 := ⟨by decide +kernel, rfl⟩
theorem dX8_isWord_34 : uD 1 cX8_isWord 34 (.istore_n 2) 35 := ⟨by decide +kernel, rfl⟩
theorem dX8_isWord_35 : uD 1 cX8_isWord 35 (.iload_n 2) 36 := ⟨by decide +kernel, rfl⟩
theorem dX8_isWord_36 : uD 1 cX8_isWord 36 (.aload_n 1) 37 := ⟨by decide +kernel, rfl⟩
theorem dX8_isWord_37 : uD 3 cX8_isWord 37 (.invokevirtual 96) 40 := ⟨by decide +kernel, rfl⟩
theorem dX8_isWord_40 : uJ cX8_isWord 40 (fun o => .if_icmp .ge o) 69 43 := ⟨29, by decide +kernel, by decide, rfl⟩
theorem dX8_isWord_43 : uD 1 cX8_isWord 43 (.aload_n 0) 44 := ⟨by decide +kernel, rfl⟩
theorem dX8_isWord_44 : uD 1 cX8_isWord 44 (.aload_n 0) 45 := ⟨by decide +kernel, rfl⟩
theorem dX8_isWord_45 : uD 3 cX8_isWord 45 (.getfield 73) 48 := ⟨by decide +kernel, rfl⟩
theorem dX8_isWord_48 : uD 1 cX8_isWord 48 (.iload_n 2) 49 := ⟨by decide +kernel, rfl⟩
theorem dX8_isWord_49 : uD 1 cX8_isWord 49 (.iadd) 50 := ⟨by decide +kernel, rfl⟩
theorem dX8_isWord_50 : uD 3 cX8_isWord 50 (.invokevirtual 69) 53 := ⟨by decide +kernel, rfl⟩
theorem dX8_isWord_53 : uD 1 cX8_isWord 53 (.aload_n 1) 54 := ⟨by decide +kernel, rfl⟩
theorem dX8_isWord_54 : uD 1 cX8_isWord 54 (.iload_n 2) 55 := ⟨by decide +kernel, rfl⟩
theorem dX8_isWord_55 : uD 3 cX8_isWord 55 (.invokevirtual 102) 58 := ⟨by decide +kernel, rfl⟩
theorem dX8_isWord_58 : uJ cX8_isWord 58 (fun o => .if_icmp .eq o) 63 61 := ⟨5, by decide +kernel, by decide, rfl⟩
theorem dX8_isWord_61 : uD 1 cX8_isWord 61 (.iconst 0) 62 := ⟨by decide +kernel, rfl⟩
theorem dX8_isWord_62 : uD 1 cX8_isWord 62 (.ireturn) 63 := ⟨by decide +kernel, rfl⟩
theorem dX8_isWord_63 : uD 3 cX8_isWord 63 (.iinc 2 1) 66 := ⟨by decide +kernel, rfl⟩
theorem dX8_isWord_66 : uJ cX8_isWord 66 (fun o => .goto o) 35 69 := ⟨(-31), by decide +kernel, by decide, rfl⟩
theorem dX8_isWord_69 : uD 1 cX8_isWord 69 (.iconst 1) 70 := ⟨by decide +kernel, rfl⟩
theorem dX8_isWord_70 : uD 1 cX8_isWord 70 (.ireturn) 71 := ⟨by decide +kernel, rfl⟩
theorem dX8_takesWord_0 : uD 1 cX8_takesWord 0 (.aload_n 0) 1 := ⟨by decide +kernel, rfl⟩
theorem dX8_takesWord_1 : uD 1 cX8_takesWord 1 (.aload_n 1) 2 := ⟨by decide +kernel, rfl⟩
theorem dX8_takesWord_2 : uD 3 cX8_takesWord 2 (.invokevirtual 106) 5 := ⟨by decide +kernel, rfl⟩
theorem dX8_takesWord_5 : uD 1 cX8_takesWord 5 (.istore_n 2) 6 := ⟨by decide +kernel, rfl⟩
theorem dX8_takesWord_6 : uD 1 cX8_takesWord 6 (.iload_n 2) 7 := ⟨by decide +kernel, rfl⟩
theorem dX8_takesWord_7 : uJ cX8_takesWord 7 (fun o => .ifCond .eq o) 14 10 := ⟨7, by decide +kernel, by decide, rfl⟩
theorem dX8_takesWord_10 : uD 1 cX8_takesWord 10 (.aload_n 0) 11 := ⟨by decide +kernel, rfl⟩
theorem dX8_takesWord_11 : uD 3 cX8_takesWord 11 (.invokevirtual 110) 14 := ⟨by decide +kernel, rfl⟩
theorem dX8_takesWord_14 : uD 1 cX8_takesWord 14 (.iload_n 2) 15 := ⟨by decide +kernel, rfl⟩
theorem dX8_takesWord_15 : uD 1 cX8_takesWord 15 (.ireturn) 16 := ⟨by decide +kernel, rfl⟩
theorem dX8_figure_0 : uD 1 cX8_figure 0 (.aload_n 0) 1 := ⟨by decide +kernel, rfl⟩
theorem dX8_figure_1 : uD 3 cX8_figure 1 (.invokevirtual 92) 4 := ⟨by decide +kernel, rfl⟩
theorem dX8_figure_4 : uJ cX8_figure 4 (fun o => .ifCond .eq o) 9 7 := ⟨5, by decide +kernel, by decide, rfl⟩
theorem dX8_figure_7 : uD 1 cX8_figure 7 (.iload_n 1) 8 := ⟨by decide +kernel, rfl⟩
theorem dX8_figure_8 : uD 1 cX8_figure 8 (.ireturn) 9 := ⟨by decide +kernel, rfl⟩
theorem dX8_figure_9 : uD 1 cX8_figure 9 (.aload_n 0) 10 := ⟨by decide +kernel, rfl⟩
theorem dX8_figure_10 : uD 3 cX8_figure 10 (.getfield 76) 13 := ⟨by decide +kernel, rfl⟩
theorem dX8_figure_13 : uD 1 cX8_figure 13 (.iconst 2) 14 := ⟨by decide +kernel, rfl⟩
theorem dX8_figure_14 : uJ cX8_figure 14 (fun o => .if_icmp .eq o) 25 17 := ⟨11, by decide +kernel, by decide, rfl⟩
theorem dX8_figure_17 : uD 1 cX8_figure 17 (.aload_n 0) 18 := ⟨by decide +kernel, rfl⟩
theorem dX8_figure_18 : uD 1 cX8_figure 18 (.iconst 1) 19 := ⟨by decide +kernel, rfl⟩
theorem dX8_figure_19 : uD 3 cX8_figure 19 (.invokevirtual 113) 22 := ⟨by decide +kernel, rfl⟩
theorem dX8_figure_22 : uJ cX8_figure 22 (fun o => .goto o) 42 25 := ⟨20, by decide +kernel, by decide, rfl⟩
theorem dX8_figure_25 : uD 1 cX8_figure 25 (.aload_n 0) 26 := ⟨by decide +kernel, rfl⟩
theorem dX8_figure_26 : uD 3 cX8_figure 26 (.getfield 86) 29 := ⟨by decide +kernel, rfl⟩
theorem dX8_figure_29 : uD 1 cX8_figure 29 (.iload_n 1) 30 := ⟨by decide +kernel, rfl⟩
theorem dX8_figure_30 : uD 1 cX8_figure 30 (.iload_n 2) 31 := ⟨by decide +kernel, rfl⟩
theorem dX8_figure_31 : uD 3 cX8_figure 31 (.invokestatic 59) 34 := ⟨by decide +kernel, rfl⟩
theorem dX8_figure_34 : uJ cX8_figure 34 (fun o => .ifCond .ne o) 42 37 := ⟨8, by decide +kernel, by decide, rfl⟩
theorem dX8_figure_37 : uD 1 cX8_figure 37 (.aload_n 0) 38 := ⟨by decide +kernel, rfl⟩
theorem dX8_figure_38 : uD 1 cX8_figure 38 (.iconst 2) 39 := ⟨by decide +kernel, rfl⟩
theorem dX8_figure_39 : uD 3 cX8_figure 39 (.invokevirtual 113) 42 := ⟨by decide +kernel, rfl⟩
theorem dX8_figure_42 : uD 1 cX8_figure 42 (.aload_n 0) 43 := ⟨by decide +kernel, rfl⟩
theorem dX8_figure_43 : uD 3 cX8_figure 43 (.getfield 86) 46 := ⟨by decide +kernel, rfl⟩
theorem dX8_figure_46 : uD 1 cX8_figure 46 (.istore_n 3) 47 := ⟨by decide +kernel, rfl⟩
theorem dX8_figure_47 : uD 1 cX8_figure 47 (.aload_n 0) 48 := ⟨by decide +kernel, rfl⟩
theorem dX8_figure_48 : uD 3 cX8_figure 48 (.invokevirtual 92) 51 := ⟨by decide +kernel, rfl⟩
theorem dX8_figure_51 : uJ cX8_figure 51 (fun o => .ifCond .ne o) 58 54 := ⟨7, by decide +kernel, by decide, rfl⟩
theorem dX8_figure_54 : uD 1 cX8_figure 54 (.aload_n 0) 55 := ⟨by decide +kernel, rfl⟩
theorem dX8_figure_55 : uD 3 cX8_figure 55 (.invokevirtual 110) 58 := ⟨by decide +kernel, rfl⟩
theorem dX8_figure_58 : uD 1 cX8_figure 58 (.iload_n 3) 59 := ⟨by decide +kernel, rfl⟩
theorem dX8_figure_59 : uD 1 cX8_figure 59 (.ireturn) 60 := ⟨by decide +kernel, rfl⟩
theorem dX8_ends_0 : uD 1 cX8_ends 0 (.aload_n 0) 1 := ⟨by decide +kernel, rfl⟩
theorem dX8_ends_1 : uD 3 cX8_ends 1 (.getfield 76) 4 := ⟨by decide +kernel, rfl⟩
theorem dX8_ends_4 : uD 1 cX8_ends 4 (.iconst 3) 5 := ⟨by decide +kernel, rfl⟩
theorem dX8_ends_5 : uJ cX8_ends 5 (fun o => .if_icmp .eq o) 13 8 := ⟨8, by decide +kernel, by decide, rfl⟩
theorem dX8_ends_8 : uD 1 cX8_ends 8 (.aload_n 0) 9 := ⟨by decide +kernel, rfl⟩
theorem dX8_ends_9 : uD 1 cX8_ends 9 (.iconst 1) 10 := ⟨by decide +kernel, rfl⟩
theorem dX8_ends_10 : uD 3 cX8_ends 10 (.invokevirtual 113) 13 := ⟨by decide +kernel, rfl⟩
theorem dX8_ends_13 : uD 1 cX8_ends 13 (.aload_n 0) 14 := ⟨by decide +kernel, rfl⟩
theorem dX8_ends_14 : uD 3 cX8_ends 14 (.invokevirtual 92) 17 := ⟨by decide +kernel, rfl⟩
theorem dX8_ends_17 : uJ cX8_ends 17 (fun o => .ifCond .ne o) 24 20 := ⟨7, by decide +kernel, by decide, rfl⟩
theorem dX8_ends_20 : uD 1 cX8_ends 20 (.aload_n 0) 21 := ⟨by decide +kernel, rfl⟩
theorem dX8_ends_21 : uD 3 cX8_ends 21 (.invokevirtual 110) 24 := ⟨by decide +kernel, rfl⟩
theorem dX8_ends_24 : uD 1 cX8_ends 24 (.return_) 25 := ⟨by decide +kernel, rfl⟩
theorem dX8_battery_0 : uD 1 cX8_battery 0 (.aload_n 0) 1 := ⟨by decide +kernel, rfl⟩
theorem dX8_battery_1 : uD 2 cX8_battery 1 (.ldc 117) 3 := ⟨by decide +kernel, rfl⟩
theorem dX8_battery_3 : uD 3 cX8_battery 3 (.invokevirtual 119) 6 := ⟨by decide +kernel, rfl⟩
theorem dX8_battery_6 : uJ cX8_battery 6 (fun o => .ifCond .ne o) 14 9 := ⟨8, by decide +kernel, by decide, rfl⟩
theorem dX8_battery_9 : uD 1 cX8_battery 9 (.aload_n 0) 10 := ⟨by decide +kernel, rfl⟩
theorem dX8_battery_10 : uD 1 cX8_battery 10 (.iconst 1) 11 := ⟨by decide +kernel, rfl⟩
theorem dX8_battery_11 : uD 3 cX8_battery 11 (.invokevirtual 113) 14 := ⟨by decide +kernel, rfl⟩
theorem dX8_battery_14 : uD 1 cX8_battery 14 (.aload_n 0) 15 := ⟨by decide +kernel, rfl⟩
theorem dX8_battery_15 : uD 3 cX8_battery 15 (.getfield 13) 18 := ⟨by decide +kernel, rfl⟩
theorem dX8_battery_18 : uD 1 cX8_battery 18 (.iconst 0) 19 := ⟨by decide +kernel, rfl⟩
theorem dX8_battery_19 : uD 1 cX8_battery 19 (.aload_n 0) 20 := ⟨by decide +kernel, rfl⟩
theorem dX8_battery_20 : uD 1 cX8_battery 20 (.iconst 1) 21 := ⟨by decide +kernel, rfl⟩
theorem dX8_battery_21 : uD 3 cX8_battery 21 (.sipush 500) 24 := ⟨by decide +kernel, rfl⟩
theorem dX8_battery_24 : uD 3 cX8_battery 24 (.invokevirtual 122) 27 := ⟨by decide +kernel, rfl⟩
theorem dX8_battery_27 : uD 1 cX8_battery 27 (.iastore) 28 := ⟨by decide +kernel, rfl⟩
theorem dX8_battery_28 : uD 1 cX8_battery 28 (.aload_n 0) 29 := ⟨by decide +kernel, rfl⟩
theorem dX8_battery_29 : uD 3 cX8_battery 29 (.getfield 13) 32 := ⟨by decide +kernel, rfl⟩
theorem dX8_battery_32 : uD 1 cX8_battery 32 (.iconst 1) 33 := ⟨by decide +kernel, rfl⟩
theorem dX8_battery_33 : uD 1 cX8_battery 33 (.aload_n 0) 34 := ⟨by decide +kernel, rfl⟩
theorem dX8_battery_34 : uD 1 cX8_battery 34 (.iconst 0) 35 := ⟨by decide +kernel, rfl⟩
theorem dX8_battery_35 : uD 1 cX8_battery 35 (.aload_n 0) 36 := ⟨by decide +kernel, rfl⟩
theorem dX8_battery_36 : uD 3 cX8_battery 36 (.getfield 13) 39 := ⟨by decide +kernel, rfl⟩
theorem dX8_battery_39 : uD 1 cX8_battery 39 (.iconst 0) 40 := ⟨by decide +kernel, rfl⟩
theorem dX8_battery_40 : uD 1 cX8_battery 40 (.iaload) 41 := ⟨by decide +kernel, rfl⟩
theorem dX8_battery_41 : uD 3 cX8_battery 41 (.invokevirtual 122) 44 := ⟨by decide +kernel, rfl⟩
theorem dX8_battery_44 : uD 1 cX8_battery 44 (.iastore) 45 := ⟨by decide +kernel, rfl⟩
theorem dX8_battery_45 : uD 1 cX8_battery 45 (.aload_n 0) 46 := ⟨by decide +kernel, rfl⟩
theorem dX8_battery_46 : uD 3 cX8_battery 46 (.getfield 13) 49 := ⟨by decide +kernel, rfl⟩
theorem dX8_battery_49 : uD 1 cX8_battery 49 (.iconst 2) 50 := ⟨by decide +kernel, rfl⟩
theorem dX8_battery_50 : uD 1 cX8_battery 50 (.aload_n 0) 51 := ⟨by decide +kernel, rfl⟩
theorem dX8_battery_51 : uD 1 cX8_battery 51 (.iconst 0) 52 := ⟨by decide +kernel, rfl⟩
theorem dX8_battery_52 : uD 2 cX8_battery 52 (.bipush 50) 54 := ⟨by decide +kernel, rfl⟩
theorem dX8_battery_54 : uD 3 cX8_battery 54 (.invokevirtual 122) 57 := ⟨by decide +kernel, rfl⟩
theorem dX8_battery_57 : uD 1 cX8_battery 57 (.iastore) 58 := ⟨by decide +kernel, rfl⟩
theorem dX8_battery_58 : uD 1 cX8_battery 58 (.aload_n 0) 59 := ⟨by decide +kernel, rfl⟩
theorem dX8_battery_59 : uD 3 cX8_battery 59 (.getfield 13) 62 := ⟨by decide +kernel, rfl⟩
theorem dX8_battery_62 : uD 1 cX8_battery 62 (.iconst 3) 63 := ⟨by decide +kernel, rfl⟩
theorem dX8_battery_63 : uD 1 cX8_battery 63 (.aload_n 0) 64 := ⟨by decide +kernel, rfl⟩
theorem dX8_battery_64 : uD 1 cX8_battery 64 (.iconst 1) 65 := ⟨by decide +kernel, rfl⟩
theorem dX8_battery_65 : uD 2 cX8_battery 65 (.bipush 50) 67 := ⟨by decide +kernel, rfl⟩
theorem dX8_battery_67 : uD 3 cX8_battery 67 (.invokevirtual 122) 70 := ⟨by decide +kernel, rfl⟩
theorem dX8_battery_70 : uD 1 cX8_battery 70 (.iastore) 71 := ⟨by decide +kernel, rfl⟩
theorem dX8_battery_71 : uD 1 cX8_battery 71 (.aload_n 0) 72 := ⟨by decide +kernel, rfl⟩
theorem dX8_battery_72 : uD 3 cX8_battery 72 (.getfield 13) 75 := ⟨by decide +kernel, rfl⟩
theorem dX8_battery_75 : uD 1 cX8_battery 75 (.iconst 4) 76 := ⟨by decide +kernel, rfl⟩
theorem dX8_battery_76 : uD 1 cX8_battery 76 (.aload_n 0) 77 := ⟨by decide +kernel, rfl⟩
theorem dX8_battery_77 : uD 1 cX8_battery 77 (.iconst 1) 78 := ⟨by decide +kernel, rfl⟩
theorem dX8_battery_78 : uD 3 cX8_battery 78 (.sipush 1000) 81 := ⟨by decide +kernel, rfl⟩
theorem dX8_battery_81 : uD 3 cX8_battery 81 (.invokevirtual 122) 84 := ⟨by decide +kernel, rfl⟩
theorem dX8_battery_84 : uD 1 cX8_battery 84 (.iastore) 85 := ⟨by decide +kernel, rfl⟩
theorem dX8_battery_85 : uD 1 cX8_battery 85 (.aload_n 0) 86 := ⟨by decide +kernel, rfl⟩
theorem dX8_battery_86 : uD 3 cX8_battery 86 (.invokevirtual 126) 89 := ⟨by decide +kernel, rfl⟩
theorem dX8_battery_89 : uD 1 cX8_battery 89 (.return_) 90 := ⟨by decide +kernel, rfl⟩
theorem dX8_mode_0 : uD 1 cX8_mode 0 (.aload_n 0) 1 := ⟨by decide +kernel, rfl⟩
theorem dX8_mode_1 : uD 2 cX8_mode 1 (.ldc 129) 3 := ⟨by decide +kernel, rfl⟩
theorem dX8_mode_3 : uD 3 cX8_mode 3 (.invokevirtual 119) 6 := ⟨by decide +kernel, rfl⟩
theorem dX8_mode_6 : uJ cX8_mode 6 (fun o => .ifCond .eq o) 10 9 := ⟨4, by decide +kernel, by decide, rfl⟩
theorem dX8_mode_9 : uD 1 cX8_mode 9 (.return_) 10 := ⟨by decide +kernel, rfl⟩
theorem dX8_mode_10 : uD 1 cX8_mode 10 (.aload_n 0) 11 := ⟨by decide +kernel, rfl⟩
theorem dX8_mode_11 : uD 2 cX8_mode 11 (.ldc 131) 13 := ⟨by decide +kernel, rfl⟩
theorem dX8_mode_13 : uD 3 cX8_mode 13 (.invokevirtual 119) 16 := ⟨by decide +kernel, rfl⟩
theorem dX8_mode_16 : uJ cX8_mode 16 (fun o => .ifCond .eq o) 30 19 := ⟨14, by decide +kernel, by decide, rfl⟩
theorem dX8_mode_19 : uD 1 cX8_mode 19 (.aload_n 0) 20 := ⟨by decide +kernel, rfl⟩
theorem dX8_mode_20 : uD 3 cX8_mode 20 (.getfield 13) 23 := ⟨by decide +kernel, rfl⟩
theorem dX8_mode_23 : uD 2 cX8_mode 23 (.bipush 7) 25 := ⟨by decide +kernel, rfl⟩
theorem dX8_mode_25 : uD 1 cX8_mode 25 (.iconst 2) 26 := ⟨by decide +kernel, rfl⟩
theorem dX8_mode_26 : uD 1 cX8_mode 26 (.iastore) 27 := ⟨by decide +kernel, rfl⟩
theorem dX8_mode_27 : uJ cX8_mode 27 (fun o => .goto o) 66 30 := ⟨39, by decide +kernel, by decide, rfl⟩
theorem dX8_mode_30 : uD 1 cX8_mode 30 (.aload_n 0) 31 := ⟨by decide +kernel, rfl⟩
theorem dX8_mode_31 : uD 2 cX8_mode 31 (.ldc 133) 33 := ⟨by decide +kernel, rfl⟩
theorem dX8_mode_33 : uD 3 cX8_mode 33 (.invokevirtual 119) 36 := ⟨by decide +kernel, rfl⟩
theorem dX8_mode_36 : uJ cX8_mode 36 (fun o => .ifCond .ne o) 44 39 := ⟨8, by decide +kernel, by decide, rfl⟩
theorem dX8_mode_39 : uD 1 cX8_mode 39 (.aload_n 0) 40 := ⟨by decide +kernel, rfl⟩
theorem dX8_mode_40 : uD 1 cX8_mode 40 (.iconst 1) 41 := ⟨by decide +kernel, rfl⟩
theorem dX8_mode_41 : uD 3 cX8_mode 41 (.invokevirtual 113) 44 := ⟨by decide +kernel, rfl⟩
theorem dX8_mode_44 : uD 1 cX8_mode 44 (.aload_n 0) 45 := ⟨by decide +kernel, rfl⟩
theorem dX8_mode_45 : uD 3 cX8_mode 45 (.getfield 13) 48 := ⟨by decide +kernel, rfl⟩
theorem dX8_mode_48 : uD 2 cX8_mode 48 (.bipush 7) 50 := ⟨by decide +kernel, rfl⟩
theorem dX8_mode_50 : uD 1 cX8_mode 50 (.iconst 1) 51 := ⟨by decide +kernel, rfl⟩
theorem dX8_mode_51 : uD 1 cX8_mode 51 (.iastore) 52 := ⟨by decide +kernel, rfl⟩
theorem dX8_mode_52 : uD 1 cX8_mode 52 (.aload_n 0) 53 := ⟨by decide +kernel, rfl⟩
theorem dX8_mode_53 : uD 3 cX8_mode 53 (.getfield 13) 56 := ⟨by decide +kernel, rfl⟩
theorem dX8_mode_56 : uD 2 cX8_mode 56 (.bipush 8) 58 := ⟨by decide +kernel, rfl⟩
theorem dX8_mode_58 : uD 1 cX8_mode 58 (.aload_n 0) 59 := ⟨by decide +kernel, rfl⟩
theorem dX8_mode_59 : uD 1 cX8_mode 59 (.iconst 1) 60 := ⟨by decide +kernel, rfl⟩
theorem dX8_mode_60 : uD 2 cX8_mode 60 (.bipush 99) 62 := ⟨by decide +kernel, rfl⟩
theorem dX8_mode_62 : uD 3 cX8_mode 62 (.invokevirtual 122) 65 := ⟨by decide +kernel, rfl⟩
theorem dX8_mode_65 : uD 1 cX8_mode 65 (.iastore) 66 := ⟨by decide +kernel, rfl⟩
theorem dX8_mode_66 : uD 1 cX8_mode 66 (.return_) 67 := ⟨by decide +kernel, rfl⟩
theorem dX8_setting_0 : uD 1 cX8_setting 0 (.aload_n 0) 1 := ⟨by decide +kernel, rfl⟩
theorem dX8_setting_1 : uD 2 cX8_setting 1 (.ldc 135) 3 := ⟨by decide +kernel, rfl⟩
theorem dX8_setting_3 : uD 3 cX8_setting 3 (.invokevirtual 106) 6 := ⟨by decide +kernel, rfl⟩
theorem dX8_setting_6 : uJ cX8_setting 6 (fun o => .ifCond .eq o) 13 9 := ⟨7, by decide +kernel, by decide, rfl⟩
theorem dX8_setting_9 : uD 1 cX8_setting 9 (.iconst 0) 10 := ⟨by decide +kernel, rfl⟩
theorem dX8_setting_10 : uJ cX8_setting 10 (fun o => .goto o) 40 13 := ⟨30, by decide +kernel, by decide, rfl⟩
theorem dX8_setting_13 : uD 1 cX8_setting 13 (.aload_n 0) 14 := ⟨by decide +kernel, rfl⟩
theorem dX8_setting_14 : uD 2 cX8_setting 14 (.ldc 137) 16 := ⟨by decide +kernel, rfl⟩
theorem dX8_setting_16 : uD 3 cX8_setting 16 (.invokevirtual 106) 19 := ⟨by decide +kernel, rfl⟩
theorem dX8_setting_19 : uJ cX8_setting 19 (fun o => .ifCond .eq o) 26 22 := ⟨7, by decide +kernel, by decide, rfl⟩
theorem dX8_setting_22 : uD 1 cX8_setting 22 (.iconst 1) 23 := ⟨by decide +kernel, rfl⟩
theorem dX8_setting_23 : uJ cX8_setting 23 (fun o => .goto o) 40 26 := ⟨17, by decide +kernel, by decide, rfl⟩
theorem dX8_setting_26 : uD 1 cX8_setting 26 (.aload_n 0) 27 := ⟨by decide +kernel, rfl⟩
theorem dX8_setting_27 : uD 2 cX8_setting 27 (.ldc 139) 29 := ⟨by decide +kernel, rfl⟩
theorem dX8_setting_29 : uD 3 cX8_setting 29 (.invokevirtual 106) 32 := ⟨by decide +kernel, rfl⟩
theorem dX8_setting_32 : uJ cX8_setting 32 (fun o => .ifCond .eq o) 39 35 := ⟨7, by decide +kernel, by decide, rfl⟩
theorem dX8_setting_35 : uD 1 cX8_setting 35 (.iconst 2) 36 := ⟨by decide +kernel, rfl⟩
theorem dX8_setting_36 : uJ cX8_setting 36 (fun o => .goto o) 40 39 := ⟨4, by decide +kernel, by decide, rfl⟩
theorem dX8_setting_39 : uD 1 cX8_setting 39 (.iconst (-1)) 40 := ⟨by decide +kernel, rfl⟩
theorem dX8_setting_40 : uD 1 cX8_setting 40 (.ireturn) 41 := ⟨by decide +kernel, rfl⟩
theorem dX8_settings_0 : uD 1 cX8_settings 0 (.iconst 0) 1 := ⟨by decide +kernel, rfl⟩
theorem dX8_settings_1 : uD 1 cX8_settings 1 (.istore_n 1) 2 := ⟨by decide +kernel, rfl⟩
theorem dX8_settings_2 : uD 1 cX8_settings 2 (.aload_n 0) 3 := ⟨by decide +kernel, rfl⟩
theorem dX8_settings_3 : uD 3 cX8_settings 3 (.invokevirtual 141) 6 := ⟨by decide +kernel, rfl⟩
theorem dX8_settings_6 : uD 1 cX8_settings 6 (.istore_n 2) 7 := ⟨by decide +kernel, rfl⟩
theorem dX8_settings_7 : uD 1 cX8_settings 7 (.iload_n 2) 8 := ⟨by decide +kernel, rfl⟩
theorem dX8_settings_8 : uD 1 cX8_settings 8 (.iconst (-1)) 9 := ⟨by decide +kernel, rfl⟩
theorem dX8_settings_9 : uJ cX8_settings 9 (fun o => .if_icmp .eq o) 101 12 := ⟨92, by decide +kernel, by decide, rfl⟩
theorem dX8_settings_12 : uD 1 cX8_settings 12 (.iload_n 1) 13 := ⟨by decide +kernel, rfl⟩
theorem dX8_settings_13 : uD 1 cX8_settings 13 (.iload_n 2) 14 := ⟨by decide +kernel, rfl⟩
theorem dX8_settings_14 : uD 3 cX8_settings 14 (.invokestatic 144) 17 := ⟨by decide +kernel, rfl⟩
theorem dX8_settings_17 : uJ cX8_settings 17 (fun o => .ifCond .eq o) 25 20 := ⟨8, by decide +kernel, by decide, rfl⟩
theorem dX8_settings_20 : uD 1 cX8_settings 20 (.aload_n 0) 21 := ⟨by decide +kernel, rfl⟩
theorem dX8_settings_21 : uD 1 cX8_settings 21 (.iconst 3) 22 := ⟨by decide +kernel, rfl⟩
theorem dX8_settings_22 : uD 3 cX8_settings 22 (.invokevirtual 113) 25 := ⟨by decide +kernel, rfl⟩
theorem dX8_settings_25 : uD 1 cX8_settings 25 (.iload_n 1) 26 := ⟨by decide +kernel, rfl⟩
theorem dX8_settings_26 : uD 1 cX8_settings 26 (.iconst 1) 27 := ⟨by decide +kernel, rfl⟩
theorem dX8_settings_27 : uD 1 cX8_settings 27 (.iload_n 2) 28 := ⟨by decide +kernel, rfl⟩
theorem dX8_settings_28 : uD 1 cX8_settings 28 (.ishl) 29 := ⟨by decide +kernel, rfl⟩
theorem dX8_settings_29 : uD 1 cX8_settings 29 (.ior) 30 := ⟨by decide +kernel, rfl⟩
theorem dX8_settings_30 : uD 1 cX8_settings 30 (.istore_n 1) 31 := ⟨by decide +kernel, rfl⟩
theorem dX8_settings_31 : uD 1 cX8_settings 31 (.aload_n 0) 32 := ⟨by decide +kernel, rfl⟩
theorem dX8_settings_32 : uD 3 cX8_settings 32 (.invokevirtual 92) 35 := ⟨by decide +kernel, rfl⟩
theorem dX8_settings_35 : uJ cX8_settings 35 (fun o => .ifCond .eq o) 39 38 := ⟨4, by decide +kernel, by decide, rfl⟩
theorem dX8_settings_38 : uD 1 cX8_settings 38 (.return_) 39 := ⟨by decide +kernel, rfl⟩
theorem dX8_settings_39 : uD 1 cX8_settings 39 (.aload_n 0) 40 := ⟨by decide +kernel, rfl⟩
theorem dX8_settings_40 : uD 3 cX8_settings 40 (.invokevirtual 110) 43 := ⟨by decide +kernel, rfl⟩
theorem dX8_settings_43 : uD 1 cX8_settings 43 (.iload_n 2) 44 := ⟨by decide +kernel, rfl⟩
theorem dX8_settings_44 : uJ cX8_settings 44 (fun o => .ifCond .ne o) 61 47 := ⟨17, by decide +kernel, by decide, rfl⟩
theorem dX8_settings_47 : uD 1 cX8_settings 47 (.aload_n 0) 48 := ⟨by decide +kernel, rfl⟩
theorem dX8_settings_48 : uD 3 cX8_settings 48 (.getfield 13) 51 := ⟨by decide +kernel, rfl⟩
theorem dX8_settings_51 : uD 1 cX8_settings 51 (.iconst 5) 52 := ⟨by decide +kernel, rfl⟩
theorem dX8_settings_52 : uD 1 cX8_settings 52 (.aload_n 0) 53 := ⟨by decide +kernel, rfl⟩
theorem dX8_settings_53 : uD 1 cX8_settings 53 (.iconst 0) 54 := ⟨by decide +kernel, rfl⟩
theorem dX8_settings_54 : uD 3 cX8_settings 54 (.sipush 200) 57 := ⟨by decide +kernel, rfl⟩
theorem dX8_settings_57 : uD 3 cX8_settings 57 (.invokevirtual 122) 60 := ⟨by decide +kernel, rfl⟩
theorem dX8_settings_60 : uD 1 cX8_settings 60 (.iastore) 61 := ⟨by decide +kernel, rfl⟩
theorem dX8_settings_61 : uD 1 cX8_settings 61 (.iload_n 2) 62 := ⟨by decide +kernel, rfl⟩
theorem dX8_settings_62 : uD 1 cX8_settings 62 (.iconst 1) 63 := ⟨by decide +kernel, rfl⟩
theorem dX8_settings_63 : uJ cX8_settings 63 (fun o => .if_icmp .ne o) 80 66 := ⟨17, by decide +kernel, by decide, rfl⟩
theorem dX8_settings_66 : uD 1 cX8_settings 66 (.aload_n 0) 67 := ⟨by decide +kernel, rfl⟩
theorem dX8_settings_67 : uD 3 cX8_settings 67 (.getfield 13) 70 := ⟨by decide +kernel, rfl⟩
theorem dX8_settings_70 : uD 2 cX8_settings 70 (.bipush 6) 72 := ⟨by decide +kernel, rfl⟩
theorem dX8_settings_72 : uD 1 cX8_settings 72 (.aload_n 0) 73 := ⟨by decide +kernel, rfl⟩
theorem dX8_settings_73 : uD 1 cX8_settings 73 (.iconst 1) 74 := ⟨by decide +kernel, rfl⟩
theorem dX8_settings_74 : uD 2 cX8_settings 74 (.bipush 24) 76 := ⟨by decide +kernel, rfl⟩
theorem dX8_settings_76 : uD 3 cX8_settings 76 (.invokevirtual 122) 79 := ⟨by decide +kernel, rfl⟩
theorem dX8_settings_79 : uD 1 cX8_settings 79 (.iastore) 80 := ⟨by decide +kernel, rfl⟩
theorem dX8_settings_80 : uD 1 cX8_settings 80 (.iload_n 2) 81 := ⟨by decide +kernel, rfl⟩
theorem dX8_settings_81 : uD 1 cX8_settings 81 (.iconst 2) 82 := ⟨by decide +kernel, rfl⟩
theorem dX8_settings_82 : uJ cX8_settings 82 (fun o => .if_icmp .ne o) 89 85 := ⟨7, by decide +kernel, by decide, rfl⟩
theorem dX8_settings_85 : uD 1 cX8_settings 85 (.aload_n 0) 86 := ⟨by decide +kernel, rfl⟩
theorem dX8_settings_86 : uD 3 cX8_settings 86 (.invokevirtual 148) 89 := ⟨by decide +kernel, rfl⟩
theorem dX8_settings_89 : uD 1 cX8_settings 89 (.aload_n 0) 90 := ⟨by decide +kernel, rfl⟩
theorem dX8_settings_90 : uD 3 cX8_settings 90 (.invokevirtual 126) 93 := ⟨by decide +kernel, rfl⟩
theorem dX8_settings_93 : uD 1 cX8_settings 93 (.aload_n 0) 94 := ⟨by decide +kernel, rfl⟩
theorem dX8_settings_94 : uD 3 cX8_settings 94 (.invokevirtual 141) 97 := ⟨by decide +kernel, rfl⟩
theorem dX8_settings_97 : uD 1 cX8_settings 97 (.istore_n 2) 98 := ⟨by decide +kernel, rfl⟩
theorem dX8_settings_98 : uJ cX8_settings 98 (fun o => .goto o) 7 101 := ⟨(-91), by decide +kernel, by decide, rfl⟩
theorem dX8_settings_101 : uD 1 cX8_settings 101 (.return_) 102 := ⟨by decide +kernel, rfl⟩
theorem dX8_oneDevice_0 : uD 1 cX8_oneDevice 0 (.aload_n 0) 1 := ⟨by decide +kernel, rfl⟩
theorem dX8_oneDevice_1 : uD 3 cX8_oneDevice 1 (.getfield 13) 4 := ⟨by decide +kernel, rfl⟩
theorem dX8_oneDevice_4 : uD 2 cX8_oneDevice 4 (.bipush 9) 6 := ⟨by decide +kernel, rfl⟩
theorem dX8_oneDevice_6 : uD 1 cX8_oneDevice 6 (.iaload) 7 := ⟨by decide +kernel, rfl⟩
theorem dX8_oneDevice_7 : uD 1 cX8_oneDevice 7 (.iconst 5) 8 := ⟨by decide +kernel, rfl⟩
theorem dX8_oneDevice_8 : uJ cX8_oneDevice 8 (fun o => .if_icmp .ne o) 16 11 := ⟨8, by decide +kernel, by decide, rfl⟩
theorem dX8_oneDevice_11 : uD 1 cX8_oneDevice 11 (.aload_n 0) 12 := ⟨by decide +kernel, rfl⟩
theorem dX8_oneDevice_12 : uD 1 cX8_oneDevice 12 (.iconst 4) 13 := ⟨by decide +kernel, rfl⟩
theorem dX8_oneDevice_13 : uD 3 cX8_oneDevice 13 (.invokevirtual 113) 16 := ⟨by decide +kernel, rfl⟩
theorem dX8_oneDevice_16 : uD 1 cX8_oneDevice 16 (.aload_n 0) 17 := ⟨by decide +kernel, rfl⟩
theorem dX8_oneDevice_17 : uD 3 cX8_oneDevice 17 (.invokevirtual 92) 20 := ⟨by decide +kernel, rfl⟩
theorem dX8_oneDevice_20 : uJ cX8_oneDevice 20 (fun o => .ifCond .eq o) 24 23 := ⟨4, by decide +kernel, by decide, rfl⟩
theorem dX8_oneDevice_23 : uD 1 cX8_oneDevice 23 (.return_) 24 := ⟨by decide +kernel, rfl⟩
theorem dX8_oneDevice_24 : uD 1 cX8_oneDevice 24 (.aload_n 0) 25 := ⟨by decide +kernel, rfl⟩
theorem dX8_oneDevice_25 : uD 3 cX8_oneDevice 25 (.invokevirtual 110) 28 := ⟨by decide +kernel, rfl⟩
theorem dX8_oneDevice_28 : uD 2 cX8_oneDevice 28 (.bipush 10) 30 := ⟨by decide +kernel, rfl⟩
theorem dX8_oneDevice_30 : uD 1 cX8_oneDevice 30 (.iconst 3) 31 := ⟨by decide +kernel, rfl⟩
theorem dX8_oneDevice_31 : uD 1 cX8_oneDevice 31 (.aload_n 0) 32 := ⟨by decide +kernel, rfl⟩
theorem dX8_oneDevice_32 : uD 3 cX8_oneDevice 32 (.getfield 13) 35 := ⟨by decide +kernel, rfl⟩
theorem dX8_oneDevice_35 : uD 2 cX8_oneDevice 35 (.bipush 9) 37 := ⟨by decide +kernel, rfl⟩
theorem dX8_oneDevice_37 : uD 1 cX8_oneDevice 37 (.iaload) 38 := ⟨by decide +kernel, rfl⟩
theorem dX8_oneDevice_38 : uD 1 cX8_oneDevice 38 (.imul) 39 := ⟨by decide +kernel, rfl⟩
theorem dX8_oneDevice_39 : uD 1 cX8_oneDevice 39 (.iadd) 40 := ⟨by decide +kernel, rfl⟩
theorem dX8_oneDevice_40 : uD 1 cX8_oneDevice 40 (.istore_n 1) 41 := ⟨by decide +kernel, rfl⟩
theorem dX8_oneDevice_41 : uD 1 cX8_oneDevice 41 (.aload_n 0) 42 := ⟨by decide +kernel, rfl⟩
theorem dX8_oneDevice_42 : uD 3 cX8_oneDevice 42 (.getfield 13) 45 := ⟨by decide +kernel, rfl⟩
theorem dX8_oneDevice_45 : uD 1 cX8_oneDevice 45 (.iload_n 1) 46 := ⟨by decide +kernel, rfl⟩
theorem dX8_oneDevice_46 : uD 1 cX8_oneDevice 46 (.iconst 0) 47 := ⟨by decide +kernel, rfl⟩
theorem dX8_oneDevice_47 : uD 1 cX8_oneDevice 47 (.iadd) 48 := ⟨by decide +kernel, rfl⟩
theorem dX8_oneDevice_48 : uD 1 cX8_oneDevice 48 (.aload_n 0) 49 := ⟨by decide +kernel, rfl⟩
theorem dX8_oneDevice_49 : uD 1 cX8_oneDevice 49 (.iconst 0) 50 := ⟨by decide +kernel, rfl⟩
theorem dX8_oneDevice_50 : uD 3 cX8_oneDevice 50 (.sipush 200) 53 := ⟨by decide +kernel, rfl⟩
theorem dX8_oneDevice_53 : uD 3 cX8_oneDevice 53 (.invokevirtual 122) 56 := ⟨by decide +kernel, rfl⟩
theorem dX8_oneDevice_56 : uD 1 cX8_oneDevice 56 (.iastore) 57 := ⟨by decide +kernel, rfl⟩
theorem dX8_oneDevice_57 : uD 1 cX8_oneDevice 57 (.aload_n 0) 58 := ⟨by decide +kernel, rfl⟩
theorem dX8_oneDevice_58 : uD 3 cX8_oneDevice 58 (.getfield 13) 61 := ⟨by decide +kernel, rfl⟩
theorem dX8_oneDevice_61 : uD 1 cX8_oneDevice 61 (.iload_n 1) 62 := ⟨by decide +kernel, rfl⟩
theorem dX8_oneDevice_62 : uD 1 cX8_oneDevice 62 (.iconst 1) 63 := ⟨by decide +kernel, rfl⟩
theorem dX8_oneDevice_63 : uD 1 cX8_oneDevice 63 (.iadd) 64 := ⟨by decide +kernel, rfl⟩
theorem dX8_oneDevice_64 : uD 1 cX8_oneDevice 64 (.aload_n 0) 65 := ⟨by decide +kernel, rfl⟩
theorem dX8_oneDevice_65 : uD 1 cX8_oneDevice 65 (.iconst 0) 66 := ⟨by decide +kernel, rfl⟩
theorem dX8_oneDevice_66 : uD 2 cX8_oneDevice 66 (.bipush 50) 68 := ⟨by decide +kernel, rfl⟩
theorem dX8_oneDevice_68 : uD 3 cX8_oneDevice 68 (.invokevirtual 122) 71 := ⟨by decide +kernel, rfl⟩
theorem dX8_oneDevice_71 : uD 1 cX8_oneDevice 71 (.iastore) 72 := ⟨by decide +kernel, rfl⟩
theorem dX8_oneDevice_72 : uD 1 cX8_oneDevice 72 (.aload_n 0) 73 := ⟨by decide +kernel, rfl⟩
theorem dX8_oneDevice_73 : uD 3 cX8_oneDevice 73 (.getfield 13) 76 := ⟨by decide +kernel, rfl⟩
theorem dX8_oneDevice_76 : uD 1 cX8_oneDevice 76 (.iload_n 1) 77 := ⟨by decide +kernel, rfl⟩
theorem dX8_oneDevice_77 : uD 1 cX8_oneDevice 77 (.iconst 2) 78 := ⟨by decide +kernel, rfl⟩
theorem dX8_oneDevice_78 : uD 1 cX8_oneDevice 78 (.iadd) 79 := ⟨by decide +kernel, rfl⟩
theorem dX8_oneDevice_79 : uD 1 cX8_oneDevice 79 (.aload_n 0) 80 := ⟨by decide +kernel, rfl⟩
theorem dX8_oneDevice_80 : uD 1 cX8_oneDevice 80 (.iconst 1) 81 := ⟨by decide +kernel, rfl⟩
theorem dX8_oneDevice_81 : uD 2 cX8_oneDevice 81 (.bipush 50) 83 := ⟨by decide +kernel, rfl⟩
theorem dX8_oneDevice_83 : uD 3 cX8_oneDevice 83 (.invokevirtual 122) 86 := ⟨by decide +kernel, rfl⟩
theorem dX8_oneDevice_86 : uD 1 cX8_oneDevice 86 (.iastore) 87 := ⟨by decide +kernel, rfl⟩
theorem dX8_oneDevice_87 : uD 1 cX8_oneDevice 87 (.aload_n 0) 88 := ⟨by decide +kernel, rfl⟩
theorem dX8_oneDevice_88 : uD 3 cX8_oneDevice 88 (.getfield 13) 91 := ⟨by decide +kernel, rfl⟩
theorem dX8_oneDevice_91 : uD 2 cX8_oneDevice 91 (.bipush 9) 93 := ⟨by decide +kernel, rfl⟩
theorem dX8_oneDevice_93 : uD 1 cX8_oneDevice 93 (.dup2) 94 := ⟨by decide +kernel, rfl⟩
theorem dX8_oneDevice_94 : uD 1 cX8_oneDevice 94 (.iaload) 95 := ⟨by decide +kernel, rfl⟩
theorem dX8_oneDevice_95 : uD 1 cX8_oneDevice 95 (.iconst 1) 96 := ⟨by decide +kernel, rfl⟩
theorem dX8_oneDevice_96 : uD 1 cX8_oneDevice 96 (.iadd) 97 := ⟨by decide +kernel, rfl⟩
theorem dX8_oneDevice_97 : uD 1 cX8_oneDevice 97 (.iastore) 98 := ⟨by decide +kernel, rfl⟩
theorem dX8_oneDevice_98 : uD 1 cX8_oneDevice 98 (.aload_n 0) 99 := ⟨by decide +kernel, rfl⟩
theorem dX8_oneDevice_99 : uD 3 cX8_oneDevice 99 (.invokevirtual 126) 102 := ⟨by decide +kernel, rfl⟩
theorem dX8_oneDevice_102 : uD 1 cX8_oneDevice 102 (.return_) 103 := ⟨by decide +kernel, rfl⟩
theorem dX8_load_0 : uD 1 cX8_load 0 (.aload_n 0) 1 := ⟨by decide +kernel, rfl⟩
theorem dX8_load_1 : uD 1 cX8_load 1 (.iconst 0) 2 := ⟨by decide +kernel, rfl⟩
theorem dX8_load_2 : uD 3 cX8_load 2 (.putfield 49) 5 := ⟨by decide +kernel, rfl⟩
theorem dX8_load_5 : uD 1 cX8_load 5 (.aload_n 0) 6 := ⟨by decide +kernel, rfl⟩
theorem dX8_load_6 : uD 1 cX8_load 6 (.aload_n 0) 7 := ⟨by decide +kernel, rfl⟩
theorem dX8_load_7 : uD 3 cX8_load 7 (.getfield 52) 10 := ⟨by decide +kernel, rfl⟩
theorem dX8_load_10 : uD 3 cX8_load 10 (.putfield 63) 13 := ⟨by decide +kernel, rfl⟩
theorem dX8_load_13 : uD 1 cX8_load 13 (.aload_n 0) 14 := ⟨by decide +kernel, rfl⟩
theorem dX8_load_14 : uD 1 cX8_load 14 (.iconst 0) 15 := ⟨by decide +kernel, rfl⟩
theorem dX8_load_15 : uD 3 cX8_load 15 (.putfield 52) 18 := ⟨by decide +kernel, rfl⟩
theorem dX8_load_18 : uD 1 cX8_load 18 (.aload_n 0) 19 := ⟨by decide +kernel, rfl⟩
theorem dX8_load_19 : uD 1 cX8_load 19 (.iconst 0) 20 := ⟨by decide +kernel, rfl⟩
theorem dX8_load_20 : uD 3 cX8_load 20 (.putfield 66) 23 := ⟨by decide +kernel, rfl⟩
theorem dX8_load_23 : uD 1 cX8_load 23 (.aload_n 0) 24 := ⟨by decide +kernel, rfl⟩
theorem dX8_load_24 : uD 1 cX8_load 24 (.iconst 0) 25 := ⟨by decide +kernel, rfl⟩
theorem dX8_load_25 : uD 3 cX8_load 25 (.putfield 89) 28 := ⟨by decide +kernel, rfl⟩
theorem dX8_load_28 : uD 1 cX8_load 28 (.aload_n 0) 29 := ⟨by decide +kernel, rfl⟩
theorem dX8_load_29 : uD 1 cX8_load 29 (.iconst (-1)) 30 := ⟨by decide +kernel, rfl⟩
theorem dX8_load_30 : uD 3 cX8_load 30 (.putfield 29) 33 := ⟨by decide +kernel, rfl⟩
theorem dX8_load_33 : uD 1 cX8_load 33 (.aload_n 0) 34 := ⟨by decide +kernel, rfl⟩
theorem dX8_load_34 : uD 3 cX8_load 34 (.invokevirtual 43) 37 := ⟨by decide +kernel, rfl⟩
theorem dX8_load_37 : uD 1 cX8_load 37 (.aload_n 0) 38 := ⟨by decide +kernel, rfl⟩
theorem dX8_load_38 : uD 3 cX8_load 38 (.invokevirtual 110) 41 := ⟨by decide +kernel, rfl⟩
theorem dX8_load_41 : uD 1 cX8_load 41 (.aload_n 0) 42 := ⟨by decide +kernel, rfl⟩
theorem dX8_load_42 : uD 3 cX8_load 42 (.invokevirtual 150) 45 := ⟨by decide +kernel, rfl⟩
theorem dX8_load_45 : uD 1 cX8_load 45 (.aload_n 0) 46 := ⟨by decide +kernel, rfl⟩
theorem dX8_load_46 : uD 3 cX8_load 46 (.invokevirtual 152) 49 := ⟨by decide +kernel, rfl⟩
theorem dX8_load_49 : uD 1 cX8_load 49 (.aload_n 0) 50 := ⟨by decide +kernel, rfl⟩
theorem dX8_load_50 : uD 2 cX8_load 50 (.ldc 155) 52 := ⟨by decide +kernel, rfl⟩
theorem dX8_load_52 : uD 3 cX8_load 52 (.invokevirtual 106) 55 := ⟨by decide +kernel, rfl⟩
theorem dX8_load_55 : uJ cX8_load 55 (fun o => .ifCond .eq o) 65 58 := ⟨10, by decide +kernel, by decide, rfl⟩
theorem dX8_load_58 : uD 1 cX8_load 58 (.aload_n 0) 59 := ⟨by decide +kernel, rfl⟩
theorem dX8_load_59 : uD 3 cX8_load 59 (.invokevirtual 157) 62 := ⟨by decide +kernel, rfl⟩
theorem dX8_load_62 : uJ cX8_load 62 (fun o => .goto o) 49 65 := ⟨(-13), by decide +kernel, by decide, rfl⟩
theorem dX8_load_65 : uD 1 cX8_load 65 (.aload_n 0) 66 := ⟨by decide +kernel, rfl⟩
theorem dX8_load_66 : uD 3 cX8_load 66 (.invokevirtual 92) 69 := ⟨by decide +kernel, rfl⟩
theorem dX8_load_69 : uJ cX8_load 69 (fun o => .ifCond .ne o) 84 72 := ⟨15, by decide +kernel, by decide, rfl⟩
theorem dX8_load_72 : uD 1 cX8_load 72 (.aload_n 0) 73 := ⟨by decide +kernel, rfl⟩
theorem dX8_load_73 : uD 3 cX8_load 73 (.getfield 76) 76 := ⟨by decide +kernel, rfl⟩
theorem dX8_load_76 : uJ cX8_load 76 (fun o => .ifCond .eq o) 84 79 := ⟨8, by decide +kernel, by decide, rfl⟩
theorem dX8_load_79 : uD 1 cX8_load 79 (.aload_n 0) 80 := ⟨by decide +kernel, rfl⟩
theorem dX8_load_80 : uD 1 cX8_load 80 (.iconst 1) 81 := ⟨by decide +kernel, rfl⟩
theorem dX8_load_81 : uD 3 cX8_load 81 (.invokevirtual 113) 84 := ⟨by decide +kernel, rfl⟩
theorem dX8_load_84 : uD 1 cX8_load 84 (.aload_n 0) 85 := ⟨by decide +kernel, rfl⟩
theorem dX8_load_85 : uD 1 cX8_load 85 (.aload_n 0) 86 := ⟨by decide +kernel, rfl⟩
theorem dX8_load_86 : uD 3 cX8_load 86 (.invokevirtual 92) 89 := ⟨by decide +kernel, rfl⟩
theorem dX8_load_89 : uJ cX8_load 89 (fun o => .ifCond .ne o) 96 92 := ⟨7, by decide +kernel, by decide, rfl⟩
theorem dX8_load_92 : uD 1 cX8_load 92 (.iconst 1) 93 := ⟨by decide +kernel, rfl⟩
theorem dX8_load_93 : uJ cX8_load 93 (fun o => .goto o) 97 96 := ⟨4, by decide +kernel, by decide, rfl⟩
theorem dX8_load_96 : uD 1 cX8_load 96 (.iconst 0) 97 := ⟨by decide +kernel, rfl⟩
theorem dX8_load_97 : uD 1 cX8_load 97 (.iconst 1) 98 := ⟨by decide +kernel, rfl⟩
theorem dX8_load_98 : uD 3 cX8_load 98 (.invokevirtual 55) 101 := ⟨by decide +kernel, rfl⟩
theorem dX8_load_101 : uJ cX8_load 101 (fun o => .ifCond .ne o) 106 104 := ⟨5, by decide +kernel, by decide, rfl⟩
theorem dX8_load_104 : uD 1 cX8_load 104 (.iconst 0) 105 := ⟨by decide +kernel, rfl⟩
theorem dX8_load_105 : uD 1 cX8_load 105 (.ireturn) 106 := ⟨by decide +kernel, rfl⟩
theorem dX8_load_106 : uD 1 cX8_load 106 (.aload_n 0) 107 := ⟨by decide +kernel, rfl⟩
theorem dX8_load_107 : uD 3 cX8_load 107 (.invokevirtual 46) 110 := ⟨by decide +kernel, rfl⟩
theorem dX8_load_110 : uD 1 cX8_load 110 (.aload_n 0) 111 := ⟨by decide +kernel, rfl⟩
theorem dX8_load_111 : uD 3 cX8_load 111 (.getfield 7) 114 := ⟨by decide +kernel, rfl⟩
theorem dX8_load_114 : uD 2 cX8_load 114 (.bipush 9) 116 := ⟨by decide +kernel, rfl⟩
theorem dX8_load_116 : uD 1 cX8_load 116 (.iaload) 117 := ⟨by decide +kernel, rfl⟩
theorem dX8_load_117 : uD 1 cX8_load 117 (.ireturn) 118 := ⟨by decide +kernel, rfl⟩
theorem dX8_errorCode_0 : uD 1 cX8_errorCode 0 (.aload_n 0) 1 := ⟨by decide +kernel, rfl⟩
theorem dX8_errorCode_1 : uD 1 cX8_errorCode 1 (.iconst 0) 2 := ⟨by decide +kernel, rfl⟩
theorem dX8_errorCode_2 : uD 3 cX8_errorCode 2 (.putfield 49) 5 := ⟨by decide +kernel, rfl⟩
theorem dX8_errorCode_5 : uD 1 cX8_errorCode 5 (.aload_n 0) 6 := ⟨by decide +kernel, rfl⟩
theorem dX8_errorCode_6 : uD 3 cX8_errorCode 6 (.getfield 89) 9 := ⟨by decide +kernel, rfl⟩
theorem dX8_errorCode_9 : uD 1 cX8_errorCode 9 (.ireturn) 10 := ⟨by decide +kernel, rfl⟩
theorem dX8_errorPosition_0 : uD 1 cX8_errorPosition 0 (.aload_n 0) 1 := ⟨by decide +kernel, rfl⟩
theorem dX8_errorPosition_1 : uD 1 cX8_errorPosition 1 (.iconst 0) 2 := ⟨by decide +kernel, rfl⟩
theorem dX8_errorPosition_2 : uD 3 cX8_errorPosition 2 (.putfield 49) 5 := ⟨by decide +kernel, rfl⟩
theorem dX8_errorPosition_5 : uD 1 cX8_errorPosition 5 (.aload_n 0) 6 := ⟨by decide +kernel, rfl⟩
theorem dX8_errorPosition_6 : uD 3 cX8_errorPosition 6 (.getfield 29) 9 := ⟨by decide +kernel, rfl⟩
theorem dX8_errorPosition_9 : uD 1 cX8_errorPosition 9 (.ireturn) 10 := ⟨by decide +kernel, rfl⟩
theorem dX8_isDevice_0 : uD 1 cX8_isDevice 0 (.iload_n 1) 1 := ⟨by decide +kernel, rfl⟩
theorem dX8_isDevice_1 : uD 1 cX8_isDevice 1 (.iconst 0) 2 := ⟨by decide +kernel, rfl⟩
theorem dX8_isDevice_2 : uD 1 cX8_isDevice 2 (.aload_n 0) 3 := ⟨by decide +kernel, rfl⟩
theorem dX8_isDevice_3 : uD 3 cX8_isDevice 3 (.getfield 7) 6 := ⟨by decide +kernel, rfl⟩
theorem dX8_isDevice_6 : uD 2 cX8_isDevice 6 (.bipush 9) 8 := ⟨by decide +kernel, rfl⟩
theorem dX8_isDevice_8 : uD 1 cX8_isDevice 8 (.iaload) 9 := ⟨by decide +kernel, rfl⟩
theorem dX8_isDevice_9 : uD 1 cX8_isDevice 9 (.iconst 1) 10 := ⟨by decide +kernel, rfl⟩
theorem dX8_isDevice_10 : uD 1 cX8_isDevice 10 (.isub) 11 := ⟨by decide +kernel, rfl⟩
theorem dX8_isDevice_11 : uD 3 cX8_isDevice 11 (.invokestatic 59) 14 := ⟨by decide +kernel, rfl⟩
theorem dX8_isDevice_14 : uD 1 cX8_isDevice 14 (.ireturn) 15 := ⟨by decide +kernel, rfl⟩
theorem dX8_isBlock_0 : uD 1 cX8_isBlock 0 (.iload_n 1) 1 := ⟨by decide +kernel, rfl⟩
theorem dX8_isBlock_1 : uD 1 cX8_isBlock 1 (.iconst 0) 2 := ⟨by decide +kernel, rfl⟩
theorem dX8_isBlock_2 : uD 1 cX8_isBlock 2 (.aload_n 0) 3 := ⟨by decide +kernel, rfl⟩
theorem dX8_isBlock_3 : uD 3 cX8_isBlock 3 (.getfield 7) 6 := ⟨by decide +kernel, rfl⟩
theorem dX8_isBlock_6 : uD 2 cX8_isBlock 6 (.bipush 36) 8 := ⟨by decide +kernel, rfl⟩
theorem dX8_isBlock_8 : uD 1 cX8_isBlock 8 (.iaload) 9 := ⟨by decide +kernel, rfl⟩
theorem dX8_isBlock_9 : uD 1 cX8_isBlock 9 (.iconst 1) 10 := ⟨by decide +kernel, rfl⟩
theorem dX8_isBlock_10 : uD 1 cX8_isBlock 10 (.isub) 11 := ⟨by decide +kernel, rfl⟩
theorem dX8_isBlock_11 : uD 3 cX8_isBlock 11 (.invokestatic 59) 14 := ⟨by decide +kernel, rfl⟩
theorem dX8_isBlock_14 : uD 1 cX8_isBlock 14 (.ireturn) 15 := ⟨by decide +kernel, rfl⟩
theorem dX8_of_0 : uD 1 cX8_of 0 (.aload_n 0) 1 := ⟨by decide +kernel, rfl⟩
theorem dX8_of_1 : uD 3 cX8_of 1 (.getfield 7) 4 := ⟨by decide +kernel, rfl⟩
theorem dX8_of_4 : uD 2 cX8_of 4 (.bipush 37) 6 := ⟨by decide +kernel, rfl⟩
theorem dX8_of_6 : uD 1 cX8_of 6 (.iconst 3) 7 := ⟨by decide +kernel, rfl⟩
theorem dX8_of_7 : uD 1 cX8_of 7 (.iload_n 1) 8 := ⟨by decide +kernel, rfl⟩
theorem dX8_of_8 : uD 1 cX8_of 8 (.imul) 9 := ⟨by decide +kernel, rfl⟩
theorem dX8_of_9 : uD 1 cX8_of 9 (.iadd) 10 := ⟨by decide +kernel, rfl⟩
theorem dX8_of_10 : uD 1 cX8_of 10 (.iload_n 2) 11 := ⟨by decide +kernel, rfl⟩
theorem dX8_of_11 : uD 1 cX8_of 11 (.iadd) 12 := ⟨by decide +kernel, rfl⟩
theorem dX8_of_12 : uD 1 cX8_of 12 (.iaload) 13 := ⟨by decide +kernel, rfl⟩
theorem dX8_of_13 : uD 1 cX8_of 13 (.ireturn) 14 := ⟨by decide +kernel, rfl⟩
theorem dX8_deviceOf_0 : uD 1 cX8_deviceOf 0 (.aload_n 0) 1 := ⟨by decide +kernel, rfl⟩
theorem dX8_deviceOf_1 : uD 1 cX8_deviceOf 1 (.iload_n 1) 2 := ⟨by decide +kernel, rfl⟩
theorem dX8_deviceOf_2 : uD 1 cX8_deviceOf 2 (.iconst 0) 3 := ⟨by decide +kernel, rfl⟩
theorem dX8_deviceOf_3 : uD 3 cX8_deviceOf 3 (.invokevirtual 160) 6 := ⟨by decide +kernel, rfl⟩
theorem dX8_deviceOf_6 : uD 2 cX8_deviceOf 6 (.bipush 100) 8 := ⟨by decide +kernel, rfl⟩
theorem dX8_deviceOf_8 : uD 1 cX8_deviceOf 8 (.idiv) 9 := ⟨by decide +kernel, rfl⟩
theorem dX8_deviceOf_9 : uD 1 cX8_deviceOf 9 (.ireturn) 10 := ⟨by decide +kernel, rfl⟩
theorem dX8_hasFailed_0 : uD 1 cX8_hasFailed 0 (.aload_n 0) 1 := ⟨by decide +kernel, rfl⟩
theorem dX8_hasFailed_1 : uD 3 cX8_hasFailed 1 (.getfield 7) 4 := ⟨by decide +kernel, rfl⟩
theorem dX8_hasFailed_4 : uD 2 cX8_hasFailed 4 (.bipush 25) 6 := ⟨by decide +kernel, rfl⟩
theorem dX8_hasFailed_6 : uD 1 cX8_hasFailed 6 (.iaload) 7 := ⟨by decide +kernel, rfl⟩
theorem dX8_hasFailed_7 : uD 1 cX8_hasFailed 7 (.iload_n 1) 8 := ⟨by decide +kernel, rfl⟩
theorem dX8_hasFailed_8 : uD 3 cX8_hasFailed 8 (.invokestatic 144) 11 := ⟨by decide +kernel, rfl⟩
theorem dX8_hasFailed_11 : uD 1 cX8_hasFailed 11 (.ireturn) 12 := ⟨by decide +kernel, rfl⟩
theorem dX8_blockAt_0 : uD 1 cX8_blockAt 0 (.iconst 0) 1 := ⟨by decide +kernel, rfl⟩
theorem dX8_blockAt_1 : uD 1 cX8_blockAt 1 (.istore_n 3) 2 := ⟨by decide +kernel, rfl⟩
theorem dX8_blockAt_2 : uD 1 cX8_blockAt 2 (.iload_n 3) 3 := ⟨by decide +kernel, rfl⟩
theorem dX8_blockAt_3 : uD 1 cX8_blockAt 3 (.aload_n 0) 4 := ⟨by decide +kernel, rfl⟩
theorem dX8_blockAt_4 : uD 3 cX8_blockAt 4 (.getfield 7) 7 := ⟨by decide +kernel, rfl⟩
theorem dX8_blockAt_7 : uD 2 cX8_blockAt 7 (.bipush 36) 9 := ⟨by decide +kernel, rfl⟩
theorem dX8_blockAt_9 : uD 1 cX8_blockAt 9 (.iaload) 10 := ⟨by decide +kernel, rfl⟩
theorem dX8_blockAt_10 : uJ cX8_blockAt 10 (fun o => .if_icmp .ge o) 36 13 := ⟨26, by decide +kernel, by decide, rfl⟩
theorem dX8_blockAt_13 : uD 1 cX8_blockAt 13 (.aload_n 0) 14 := ⟨by decide +kernel, rfl⟩
theorem dX8_blockAt_14 : uD 1 cX8_blockAt 14 (.iload_n 3) 15 := ⟨by decide +kernel, rfl⟩
theorem dX8_blockAt_15 : uD 1 cX8_blockAt 15 (.iconst 0) 16 := ⟨by decide +kernel, rfl⟩
theorem dX8_blockAt_16 : uD 3 cX8_blockAt 16 (.invokevirtual 160) 19 := ⟨by decide +kernel, rfl⟩
theorem dX8_blockAt_19 : uD 2 cX8_blockAt 19 (.bipush 100) 21 := ⟨by decide +kernel, rfl⟩
theorem dX8_blockAt_21 : uD 1 cX8_blockAt 21 (.iload_n 1) 22 := ⟨by decide +kernel, rfl⟩
theorem dX8_blockAt_22 : uD 1 cX8_blockAt 22 (.imul) 23 := ⟨by decide +kernel, rfl⟩
theorem dX8_blockAt_23 : uD 1 cX8_blockAt 23 (.iload_n 2) 24 := ⟨by decide +kernel, rfl⟩
theorem dX8_blockAt_24 : uD 1 cX8_blockAt 24 (.iadd) 25 := ⟨by decide +kernel, rfl⟩
theorem dX8_blockAt_25 : uJ cX8_blockAt 25 (fun o => .if_icmp .ne o) 30 28 := ⟨5, by decide +kernel, by decide, rfl⟩
theorem dX8_blockAt_28 : uD 1 cX8_blockAt 28 (.iload_n 3) 29 := ⟨by decide +kernel, rfl⟩
theorem dX8_blockAt_29 : uD 1 cX8_blockAt 29 (.ireturn) 30 := ⟨by decide +kernel, rfl⟩
theorem dX8_blockAt_30 : uD 3 cX8_blockAt 30 (.iinc 3 1) 33 := ⟨by decide +kernel, rfl⟩
theorem dX8_blockAt_33 : uJ cX8_blockAt 33 (fun o => .goto o) 2 36 := ⟨(-31), by decide +kernel, by decide, rfl⟩
theorem dX8_blockAt_36 : uD 1 cX8_blockAt 36 (.iconst (-1)) 37 := ⟨by decide +kernel, rfl⟩
theorem dX8_blockAt_37 : uD 1 cX8_blockAt 37 (.ireturn) 38 := ⟨by decide +kernel, rfl⟩
theorem dX8_comes_0 : uD 2 cX8_comes 0 (.bipush 100) 2 := ⟨by decide +kernel, rfl⟩
theorem dX8_comes_2 : uD 1 cX8_comes 2 (.iload_n 1) 3 := ⟨by decide +kernel, rfl⟩
theorem dX8_comes_3 : uD 1 cX8_comes 3 (.imul) 4 := ⟨by decide +kernel, rfl⟩
theorem dX8_comes_4 : uD 1 cX8_comes 4 (.iload_n 2) 5 := ⟨by decide +kernel, rfl⟩
theorem dX8_comes_5 : uD 1 cX8_comes 5 (.iadd) 6 := ⟨by decide +kernel, rfl⟩
theorem dX8_comes_6 : uD 2 cX8_comes 6 (.istore 4) 8 := ⟨by decide +kernel, rfl⟩
theorem dX8_comes_8 : uD 1 cX8_comes 8 (.aload_n 0) 9 := ⟨by decide +kernel, rfl⟩
theorem dX8_comes_9 : uD 3 cX8_comes 9 (.getfield 7) 12 := ⟨by decide +kernel, rfl⟩
theorem dX8_comes_12 : uD 2 cX8_comes 12 (.bipush 36) 14 := ⟨by decide +kernel, rfl⟩
theorem dX8_comes_14 : uD 1 cX8_comes 14 (.iaload) 15 := ⟨by decide +kernel, rfl⟩
theorem dX8_comes_15 : uD 2 cX8_comes 15 (.istore 5) 17 := ⟨by decide +kernel, rfl⟩
theorem dX8_comes_17 : uD 2 cX8_comes 17 (.iload 5) 19 := ⟨by decide +kernel, rfl⟩
theorem dX8_comes_19 : uJ cX8_comes 19 (fun o => .ifCond .le o) 82 22 := ⟨63, by decide +kernel, by decide, rfl⟩
theorem dX8_comes_22 : uD 1 cX8_comes 22 (.aload_n 0) 23 := ⟨by decide +kernel, rfl⟩
theorem dX8_comes_23 : uD 2 cX8_comes 23 (.iload 5) 25 := ⟨by decide +kernel, rfl⟩
theorem dX8_comes_25 : uD 1 cX8_comes 25 (.iconst 1) 26 := ⟨by decide +kernel, rfl⟩
theorem dX8_comes_26 : uD 1 cX8_comes 26 (.isub) 27 := ⟨by decide +kernel, rfl⟩
theorem dX8_comes_27 : uD 1 cX8_comes 27 (.iconst 0) 28 := ⟨by decide +kernel, rfl⟩
theorem dX8_comes_28 : uD 3 cX8_comes 28 (.invokevirtual 160) 31 := ⟨by decide +kernel, rfl⟩
theorem dX8_comes_31 : uD 2 cX8_comes 31 (.iload 4) 33 := ⟨by decide +kernel, rfl⟩
theorem dX8_comes_33 : uJ cX8_comes 33 (fun o => .if_icmp .le o) 82 36 := ⟨49, by decide +kernel, by decide, rfl⟩
theorem dX8_comes_36 : uD 1 cX8_comes 36 (.iconst 0) 37 := ⟨by decide +kernel, rfl⟩
theorem dX8_comes_37 : uD 2 cX8_comes 37 (.istore 6) 39 := ⟨by decide +kernel, rfl⟩
theorem dX8_comes_39 : uD 2 cX8_comes 39 (.iload 6) 41 := ⟨by decide +kernel, rfl⟩
theorem dX8_comes_41 : uD 1 cX8_comes 41 (.iconst 3) 42 := ⟨by decide +kernel, rfl⟩
theorem dX8_comes_42 : uJ cX8_comes 42 (fun o => .if_icmp .ge o) 76 45 := ⟨34, by decide +kernel, by decide, rfl⟩
theorem dX8_comes_45 : uD 1 cX8_comes 45 (.aload_n 0) 46 := ⟨by decide +kernel, rfl⟩
theorem dX8_comes_46 : uD 3 cX8_comes 46 (.getfield 7) 49 := ⟨by decide +kernel, rfl⟩
theorem dX8_comes_49 : uD 2 cX8_comes 49 (.bipush 37) 51 := ⟨by decide +kernel, rfl⟩
theorem dX8_comes_51 : uD 1 cX8_comes 51 (.iconst 3) 52 := ⟨by decide +kernel, rfl⟩
theorem dX8_comes_52 : uD 2 cX8_comes 52 (.iload 5) 54 := ⟨by decide +kernel, rfl⟩
theorem dX8_comes_54 : uD 1 cX8_comes 54 (.imul) 55 := ⟨by decide +kernel, rfl⟩
theorem dX8_comes_55 : uD 1 cX8_comes 55 (.iadd) 56 := ⟨by decide +kernel, rfl⟩
theorem dX8_comes_56 : uD 2 cX8_comes 56 (.iload 6) 58 := ⟨by decide +kernel, rfl⟩
theorem dX8_comes_58 : uD 1 cX8_comes 58 (.iadd) 59 := ⟨by decide +kernel, rfl⟩
theorem dX8_comes_59 : uD 1 cX8_comes 59 (.aload_n 0) 60 := ⟨by decide +kernel, rfl⟩
theorem dX8_comes_60 : uD 2 cX8_comes 60 (.iload 5) 62 := ⟨by decide +kernel, rfl⟩
theorem dX8_comes_62 : uD 1 cX8_comes 62 (.iconst 1) 63 := ⟨by decide +kernel, rfl⟩
theorem dX8_comes_63 : uD 1 cX8_comes 63 (.isub) 64 := ⟨by decide +kernel, rfl⟩
theorem dX8_comes_64 : uD 2 cX8_comes 64 (.iload 6) 66 := ⟨by decide +kernel, rfl⟩
theorem dX8_comes_66 : uD 3 cX8_comes 66 (.invokevirtual 160) 69 := ⟨by decide +kernel, rfl⟩
theorem dX8_comes_69 : uD 1 cX8_comes 69 (.iastore) 70 := ⟨by decide +kernel, rfl⟩
theorem dX8_comes_70 : uD 3 cX8_comes 70 (.iinc 6 1) 73 := ⟨by decide +kernel, rfl⟩
theorem dX8_comes_73 : uJ cX8_comes 73 (fun o => .goto o) 39 76 := ⟨(-34), by decide +kernel, by decide, rfl⟩
theorem dX8_comes_76 : uD 3 cX8_comes 76 (.iinc 5 (-1)) 79 := ⟨by decide +kernel, rfl⟩
theorem dX8_comes_79 : uJ cX8_comes 79 (fun o => .goto o) 17 82 := ⟨(-62), by decide +kernel, by decide, rfl⟩
theorem dX8_comes_82 : uD 1 cX8_comes 82 (.aload_n 0) 83 := ⟨by decide +kernel, rfl⟩
theorem dX8_comes_83 : uD 3 cX8_comes 83 (.getfield 7) 86 := ⟨by decide +kernel, rfl⟩
theorem dX8_comes_86 : uD 2 cX8_comes 86 (.bipush 37) 88 := ⟨by decide +kernel, rfl⟩
theorem dX8_comes_88 : uD 1 cX8_comes 88 (.iconst 3) 89 := ⟨by decide +kernel, rfl⟩
theorem dX8_comes_89 : uD 2 cX8_comes 89 (.iload 5) 91 := ⟨by decide +kernel, rfl⟩
theorem dX8_comes_91 : uD 1 cX8_comes 91 (.imul) 92 := ⟨by decide +kernel, rfl⟩
theorem dX8_comes_92 : uD 1 cX8_comes 92 (.iadd) 93 := ⟨by decide +kernel, rfl⟩
theorem dX8_comes_93 : uD 2 cX8_comes 93 (.iload 4) 95 := ⟨by decide +kernel, rfl⟩
theorem dX8_comes_95 : uD 1 cX8_comes 95 (.iastore) 96 := ⟨by decide +kernel, rfl⟩
theorem dX8_comes_96 : uD 1 cX8_comes 96 (.aload_n 0) 97 := ⟨by decide +kernel, rfl⟩
theorem dX8_comes_97 : uD 3 cX8_comes 97 (.getfield 7) 100 := ⟨by decide +kernel, rfl⟩
theorem dX8_comes_100 : uD 2 cX8_comes 100 (.bipush 37) 102 := ⟨by decide +kernel, rfl⟩
theorem dX8_comes_102 : uD 1 cX8_comes 102 (.iconst 3) 103 := ⟨by decide +kernel, rfl⟩
theorem dX8_comes_103 : uD 2 cX8_comes 103 (.iload 5) 105 := ⟨by decide +kernel, rfl⟩
theorem dX8_comes_105 : uD 1 cX8_comes 105 (.imul) 106 := ⟨by decide +kernel, rfl⟩
theorem dX8_comes_106 : uD 1 cX8_comes 106 (.iadd) 107 := ⟨by decide +kernel, rfl⟩
theorem dX8_comes_107 : uD 1 cX8_comes 107 (.iconst 1) 108 := ⟨by decide +kernel, rfl⟩
theorem dX8_comes_108 : uD 1 cX8_comes 108 (.iadd) 109 := ⟨by decide +kernel, rfl⟩
theorem dX8_comes_109 : uD 1 cX8_comes 109 (.iload_n 3) 110 := ⟨by decide +kernel, rfl⟩
theorem dX8_comes_110 : uD 1 cX8_comes 110 (.iastore) 111 := ⟨by decide +kernel, rfl⟩
theorem dX8_comes_111 : uD 1 cX8_comes 111 (.aload_n 0) 112 := ⟨by decide +kernel, rfl⟩
theorem dX8_comes_112 : uD 3 cX8_comes 112 (.getfield 7) 115 := ⟨by decide +kernel, rfl⟩
theorem dX8_comes_115 : uD 2 cX8_comes 115 (.bipush 37) 117 := ⟨by decide +kernel, rfl⟩
theorem dX8_comes_117 : uD 1 cX8_comes 117 (.iconst 3) 118 := ⟨by decide +kernel, rfl⟩
theorem dX8_comes_118 : uD 2 cX8_comes 118 (.iload 5) 120 := ⟨by decide +kernel, rfl⟩
theorem dX8_comes_120 : uD 1 cX8_comes 120 (.imul) 121 := ⟨by decide +kernel, rfl⟩
theorem dX8_comes_121 : uD 1 cX8_comes 121 (.iadd) 122 := ⟨by decide +kernel, rfl⟩
theorem dX8_comes_122 : uD 1 cX8_comes 122 (.iconst 2) 123 := ⟨by decide +kernel, rfl⟩
theorem dX8_comes_123 : uD 1 cX8_comes 123 (.iadd) 124 := ⟨by decide +kernel, rfl⟩
theorem dX8_comes_124 : uD 1 cX8_comes 124 (.aload_n 0) 125 := ⟨by decide +kernel, rfl⟩
theorem dX8_comes_125 : uD 3 cX8_comes 125 (.getfield 7) 128 := ⟨by decide +kernel, rfl⟩
theorem dX8_comes_128 : uD 2 cX8_comes 128 (.bipush 26) 130 := ⟨by decide +kernel, rfl⟩
theorem dX8_comes_130 : uD 1 cX8_comes 130 (.iaload) 131 := ⟨by decide +kernel, rfl⟩
theorem dX8_comes_131 : uD 1 cX8_comes 131 (.iastore) 132 := ⟨by decide +kernel, rfl⟩
theorem dX8_comes_132 : uD 1 cX8_comes 132 (.aload_n 0) 133 := ⟨by decide +kernel, rfl⟩
theorem dX8_comes_133 : uD 3 cX8_comes 133 (.getfield 7) 136 := ⟨by decide +kernel, rfl⟩
theorem dX8_comes_136 : uD 2 cX8_comes 136 (.bipush 36) 138 := ⟨by decide +kernel, rfl⟩
theorem dX8_comes_138 : uD 1 cX8_comes 138 (.dup2) 139 := ⟨by decide +kernel, rfl⟩
theorem dX8_comes_139 : uD 1 cX8_comes 139 (.iaload) 140 := ⟨by decide +kernel, rfl⟩
theorem dX8_comes_140 : uD 1 cX8_comes 140 (.iconst 1) 141 := ⟨by decide +kernel, rfl⟩
theorem dX8_comes_141 : uD 1 cX8_comes 141 (.iadd) 142 := ⟨by decide +kernel, rfl⟩
theorem dX8_comes_142 : uD 1 cX8_comes 142 (.iastore) 143 := ⟨by decide +kernel, rfl⟩
theorem dX8_comes_143 : uD 1 cX8_comes 143 (.return_) 144 := ⟨by decide +kernel, rfl⟩
theorem dX8_goes_0 : uD 1 cX8_goes 0 (.aload_n 0) 1 := ⟨by decide +kernel, rfl⟩
theorem dX8_goes_1 : uD 3 cX8_goes 1 (.getfield 7) 4 := ⟨by decide +kernel, rfl⟩
theorem dX8_goes_4 : uD 2 cX8_goes 4 (.bipush 36) 6 := ⟨by decide +kernel, rfl⟩
theorem dX8_goes_6 : uD 1 cX8_goes 6 (.dup2) 7 := ⟨by decide +kernel, rfl⟩
theorem dX8_goes_7 : uD 1 cX8_goes 7 (.iaload) 8 := ⟨by decide +kernel, rfl⟩
theorem dX8_goes_8 : uD 1 cX8_goes 8 (.iconst 1) 9 := ⟨by decide +kernel, rfl⟩
theorem dX8_goes_9 : uD 1 cX8_goes 9 (.isub) 10 := ⟨by decide +kernel, rfl⟩
theorem dX8_goes_10 : uD 1 cX8_goes 10 (.iastore) 11 := ⟨by decide +kernel, rfl⟩
theorem dX8_goes_11 : uD 2 cX8_goes 11 (.bipush 37) 13 := ⟨by decide +kernel, rfl⟩
theorem dX8_goes_13 : uD 1 cX8_goes 13 (.iconst 3) 14 := ⟨by decide +kernel, rfl⟩
theorem dX8_goes_14 : uD 1 cX8_goes 14 (.iload_n 1) 15 := ⟨by decide +kernel, rfl⟩
theorem dX8_goes_15 : uD 1 cX8_goes 15 (.imul) 16 := ⟨by decide +kernel, rfl⟩
theorem dX8_goes_16 : uD 1 cX8_goes 16 (.iadd) 17 := ⟨by decide +kernel, rfl⟩
theorem dX8_goes_17 : uD 1 cX8_goes 17 (.istore_n 2) 18 := ⟨by decide +kernel, rfl⟩
theorem dX8_goes_18 : uD 1 cX8_goes 18 (.iload_n 2) 19 := ⟨by decide +kernel, rfl⟩
theorem dX8_goes_19 : uD 2 cX8_goes 19 (.bipush 37) 21 := ⟨by decide +kernel, rfl⟩
theorem dX8_goes_21 : uD 1 cX8_goes 21 (.iconst 3) 22 := ⟨by decide +kernel, rfl⟩
theorem dX8_goes_22 : uD 1 cX8_goes 22 (.aload_n 0) 23 := ⟨by decide +kernel, rfl⟩
theorem dX8_goes_23 : uD 3 cX8_goes 23 (.getfield 7) 26 := ⟨by decide +kernel, rfl⟩
theorem dX8_goes_26 : uD 2 cX8_goes 26 (.bipush 36) 28 := ⟨by decide +kernel, rfl⟩
theorem dX8_goes_28 : uD 1 cX8_goes 28 (.iaload) 29 := ⟨by decide +kernel, rfl⟩
theorem dX8_goes_29 : uD 1 cX8_goes 29 (.imul) 30 := ⟨by decide +kernel, rfl⟩
theorem dX8_goes_30 : uD 1 cX8_goes 30 (.iadd) 31 := ⟨by decide +kernel, rfl⟩
theorem dX8_goes_31 : uJ cX8_goes 31 (fun o => .if_icmp .ge o) 54 34 := ⟨23, by decide +kernel, by decide, rfl⟩
theorem dX8_goes_34 : uD 1 cX8_goes 34 (.aload_n 0) 35 := ⟨by decide +kernel, rfl⟩
theorem dX8_goes_35 : uD 3 cX8_goes 35 (.getfield 7) 38 := ⟨by decide +kernel, rfl⟩
theorem dX8_goes_38 : uD 1 cX8_goes 38 (.iload_n 2) 39 := ⟨by decide +kernel, rfl⟩
theorem dX8_goes_39 : uD 1 cX8_goes 39 (.aload_n 0) 40 := ⟨by decide +kernel, rfl⟩
theorem dX8_goes_40 : uD 3 cX8_goes 40 (.getfield 7) 43 := ⟨by decide +kernel, rfl⟩
theorem dX8_goes_43 : uD 1 cX8_goes 43 (.iload_n 2) 44 := ⟨by decide +kernel, rfl⟩
theorem dX8_goes_44 : uD 1 cX8_goes 44 (.iconst 3) 45 := ⟨by decide +kernel, rfl⟩
theorem dX8_goes_45 : uD 1 cX8_goes 45 (.iadd) 46 := ⟨by decide +kernel, rfl⟩
theorem dX8_goes_46 : uD 1 cX8_goes 46 (.iaload) 47 := ⟨by decide +kernel, rfl⟩
theorem dX8_goes_47 : uD 1 cX8_goes 47 (.iastore) 48 := ⟨by decide +kernel, rfl⟩
theorem dX8_goes_48 : uD 3 cX8_goes 48 (.iinc 2 1) 51 := ⟨by decide +kernel, rfl⟩
theorem dX8_goes_51 : uJ cX8_goes 51 (fun o => .goto o) 18 54 := ⟨(-33), by decide +kernel, by decide, rfl⟩
theorem dX8_goes_54 : uD 1 cX8_goes 54 (.return_) 55 := ⟨by decide +kernel, rfl⟩
theorem dX8_allGo_0 : uD 1 cX8_allGo 0 (.aload_n 0) 1 := ⟨by decide +kernel, rfl⟩
theorem dX8_allGo_1 : uD 3 cX8_allGo 1 (.getfield 7) 4 := ⟨by decide +kernel, rfl⟩
theorem dX8_allGo_4 : uD 2 cX8_allGo 4 (.bipush 36) 6 := ⟨by decide +kernel, rfl⟩
theorem dX8_allGo_6 : uD 1 cX8_allGo 6 (.iaload) 7 := ⟨by decide +kernel, rfl⟩
theorem dX8_allGo_7 : uD 1 cX8_allGo 7 (.iconst 1) 8 := ⟨by decide +kernel, rfl⟩
theorem dX8_allGo_8 : uD 1 cX8_allGo 8 (.isub) 9 := ⟨by decide +kernel, rfl⟩
theorem dX8_allGo_9 : uD 1 cX8_allGo 9 (.istore_n 2) 10 := ⟨by decide +kernel, rfl⟩
theorem dX8_allGo_10 : uD 1 cX8_allGo 10 (.iload_n 2) 11 := ⟨by decide +kernel, rfl⟩
theorem dX8_allGo_11 : uJ cX8_allGo 11 (fun o => .ifCond .lt o) 33 14 := ⟨22, by decide +kernel, by decide, rfl⟩
theorem dX8_allGo_14 : uD 1 cX8_allGo 14 (.iload_n 1) 15 := ⟨by decide +kernel, rfl⟩
theorem dX8_allGo_15 : uD 1 cX8_allGo 15 (.iload_n 2) 16 := ⟨by decide +kernel, rfl⟩
theorem dX8_allGo_16 : uD 3 cX8_allGo 16 (.invokestatic 144) 19 := ⟨by decide +kernel, rfl⟩
theorem dX8_allGo_19 : uJ cX8_allGo 19 (fun o => .ifCond .eq o) 27 22 := ⟨8, by decide +kernel, by decide, rfl⟩
theorem dX8_allGo_22 : uD 1 cX8_allGo 22 (.aload_n 0) 23 := ⟨by decide +kernel, rfl⟩
theorem dX8_allGo_23 : uD 1 cX8_allGo 23 (.iload_n 2) 24 := ⟨by decide +kernel, rfl⟩
theorem dX8_allGo_24 : uD 3 cX8_allGo 24 (.invokevirtual 163) 27 := ⟨by decide +kernel, rfl⟩
theorem dX8_allGo_27 : uD 3 cX8_allGo 27 (.iinc 2 (-1)) 30 := ⟨by decide +kernel, rfl⟩
theorem dX8_allGo_30 : uJ cX8_allGo 30 (fun o => .goto o) 10 33 := ⟨(-20), by decide +kernel, by decide, rfl⟩
theorem dX8_allGo_33 : uD 1 cX8_allGo 33 (.return_) 34 := ⟨by decide +kernel, rfl⟩
theorem dX8_all_0 : uD 1 cX8_all 0 (.iconst 1) 1 := ⟨by decide +kernel, rfl⟩
theorem dX8_all_1 : uD 1 cX8_all 1 (.aload_n 0) 2 := ⟨by decide +kernel, rfl⟩
theorem dX8_all_2 : uD 3 cX8_all 2 (.getfield 7) 5 := ⟨by decide +kernel, rfl⟩
theorem dX8_all_5 : uD 2 cX8_all 5 (.bipush 36) 7 := ⟨by decide +kernel, rfl⟩
theorem dX8_all_7 : uD 1 cX8_all 7 (.iaload) 8 := ⟨by decide +kernel, rfl⟩
theorem dX8_all_8 : uD 1 cX8_all 8 (.ishl) 9 := ⟨by decide +kernel, rfl⟩
theorem dX8_all_9 : uD 1 cX8_all 9 (.iconst 1) 10 := ⟨by decide +kernel, rfl⟩
theorem dX8_all_10 : uD 1 cX8_all 10 (.isub) 11 := ⟨by decide +kernel, rfl⟩
theorem dX8_all_11 : uD 1 cX8_all 11 (.ireturn) 12 := ⟨by decide +kernel, rfl⟩
theorem dX8_setOf_0 : uD 1 cX8_setOf 0 (.iconst 0) 1 := ⟨by decide +kernel, rfl⟩
theorem dX8_setOf_1 : uD 1 cX8_setOf 1 (.istore_n 2) 2 := ⟨by decide +kernel, rfl⟩
theorem dX8_setOf_2 : uD 1 cX8_setOf 2 (.iconst 0) 3 := ⟨by decide +kernel, rfl⟩
theorem dX8_setOf_3 : uD 1 cX8_setOf 3 (.istore_n 3) 4 := ⟨by decide +kernel, rfl⟩
theorem dX8_setOf_4 : uD 1 cX8_setOf 4 (.iload_n 3) 5 := ⟨by decide +kernel, rfl⟩
theorem dX8_setOf_5 : uD 1 cX8_setOf 5 (.aload_n 0) 6 := ⟨by decide +kernel, rfl⟩
theorem dX8_setOf_6 : uD 3 cX8_setOf 6 (.getfield 7) 9 := ⟨by decide +kernel, rfl⟩
theorem dX8_setOf_9 : uD 2 cX8_setOf 9 (.bipush 36) 11 := ⟨by decide +kernel, rfl⟩
theorem dX8_setOf_11 : uD 1 cX8_setOf 11 (.iaload) 12 := ⟨by decide +kernel, rfl⟩
theorem dX8_setOf_12 : uJ cX8_setOf 12 (fun o => .if_icmp .ge o) 40 15 := ⟨28, by decide +kernel, by decide, rfl⟩
theorem dX8_setOf_15 : uD 1 cX8_setOf 15 (.iload_n 2) 16 := ⟨by decide +kernel, rfl⟩
theorem dX8_setOf_16 : uD 1 cX8_setOf 16 (.aload_n 0) 17 := ⟨by decide +kernel, rfl⟩
theorem dX8_setOf_17 : uD 1 cX8_setOf 17 (.iload_n 3) 18 := ⟨by decide +kernel, rfl⟩
theorem dX8_setOf_18 : uD 3 cX8_setOf 18 (.invokevirtual 166) 21 := ⟨by decide +kernel, rfl⟩
theorem dX8_setOf_21 : uD 1 cX8_setOf 21 (.iload_n 1) 22 := ⟨by decide +kernel, rfl⟩
theorem dX8_setOf_22 : uJ cX8_setOf 22 (fun o => .if_icmp .ne o) 31 25 := ⟨9, by decide +kernel, by decide, rfl⟩
theorem dX8_setOf_25 : uD 1 cX8_setOf 25 (.iconst 1) 26 := ⟨by decide +kernel, rfl⟩
theorem dX8_setOf_26 : uD 1 cX8_setOf 26 (.iload_n 3) 27 := ⟨by decide +kernel, rfl⟩
theorem dX8_setOf_27 : uD 1 cX8_setOf 27 (.ishl) 28 := ⟨by decide +kernel, rfl⟩
theorem dX8_setOf_28 : uJ cX8_setOf 28 (fun o => .goto o) 32 31 := ⟨4, by decide +kernel, by decide, rfl⟩
theorem dX8_setOf_31 : uD 1 cX8_setOf 31 (.iconst 0) 32 := ⟨by decide +kernel, rfl⟩
theorem dX8_setOf_32 : uD 1 cX8_setOf 32 (.ior) 33 := ⟨by decide +kernel, rfl⟩
theorem dX8_setOf_33 : uD 1 cX8_setOf 33 (.istore_n 2) 34 := ⟨by decide +kernel, rfl⟩
theorem dX8_setOf_34 : uD 3 cX8_setOf 34 (.iinc 3 1) 37 := ⟨by decide +kernel, rfl⟩
theorem dX8_setOf_37 : uJ cX8_setOf 37 (fun o => .goto o) 4 40 := ⟨(-33), by decide +kernel, by decide, rfl⟩
theorem dX8_setOf_40 : uD 1 cX8_setOf 40 (.iload_n 2) 41 := ⟨by decide +kernel, rfl⟩
theorem dX8_setOf_41 : uD 1 cX8_setOf 41 (.ireturn) 42 := ⟨by decide +kernel, rfl⟩
theorem dX8_possible_0 : uD 1 cX8_possible 0 (.iconst 0) 1 := ⟨by decide +kernel, rfl⟩
theorem dX8_possible_1 : uD 1 cX8_possible 1 (.istore_n 1) 2 := ⟨by decide +kernel, rfl⟩
theorem dX8_possible_2 : uD 1 cX8_possible 2 (.iconst 0) 3 := ⟨by decide +kernel, rfl⟩
theorem dX8_possible_3 : uD 1 cX8_possible 3 (.istore_n 2) 4 := ⟨by decide +kernel, rfl⟩
theorem dX8_possible_4 : uD 1 cX8_possible 4 (.iload_n 2) 5 := ⟨by decide +kernel, rfl⟩
theorem dX8_possible_5 : uD 1 cX8_possible 5 (.aload_n 0) 6 := ⟨by decide +kernel, rfl⟩
theorem dX8_possible_6 : uD 3 cX8_possible 6 (.getfield 7) 9 := ⟨by decide +kernel, rfl⟩
theorem dX8_possible_9 : uD 2 cX8_possible 9 (.bipush 36) 11 := ⟨by decide +kernel, rfl⟩
theorem dX8_possible_11 : uD 1 cX8_possible 11 (.iaload) 12 := ⟨by decide +kernel, rfl⟩
theorem dX8_possible_12 : uJ cX8_possible 12 (fun o => .if_icmp .ge o) 43 15 := ⟨31, by decide +kernel, by decide, rfl⟩
theorem dX8_possible_15 : uD 1 cX8_possible 15 (.iload_n 1) 16 := ⟨by decide +kernel, rfl⟩
theorem dX8_possible_16 : uD 1 cX8_possible 16 (.aload_n 0) 17 := ⟨by decide +kernel, rfl⟩
theorem dX8_possible_17 : uD 1 cX8_possible 17 (.aload_n 0) 18 := ⟨by decide +kernel, rfl⟩
theorem dX8_possible_18 : uD 1 cX8_possible 18 (.iload_n 2) 19 := ⟨by decide +kernel, rfl⟩
theorem dX8_possible_19 : uD 3 cX8_possible 19 (.invokevirtual 166) 22 := ⟨by decide +kernel, rfl⟩
theorem dX8_possible_22 : uD 3 cX8_possible 22 (.invokevirtual 169) 25 := ⟨by decide +kernel, rfl⟩
theorem dX8_possible_25 : uJ cX8_possible 25 (fun o => .ifCond .eq o) 32 28 := ⟨7, by decide +kernel, by decide, rfl⟩
theorem dX8_possible_28 : uD 1 cX8_possible 28 (.iconst 0) 29 := ⟨by decide +kernel, rfl⟩
theorem dX8_possible_29 : uJ cX8_possible 29 (fun o => .goto o) 35 32 := ⟨6, by decide +kernel, by decide, rfl⟩
theorem dX8_possible_32 : uD 1 cX8_possible 32 (.iconst 1) 33 := ⟨by decide +kernel, rfl⟩
theorem dX8_possible_33 : uD 1 cX8_possible 33 (.iload_n 2) 34 := ⟨by decide +kernel, rfl⟩
theorem dX8_possible_34 : uD 1 cX8_possible 34 (.ishl) 35 := ⟨by decide +kernel, rfl⟩
theorem dX8_possible_35 : uD 1 cX8_possible 35 (.ior) 36 := ⟨by decide +kernel, rfl⟩
theorem dX8_possible_36 : uD 1 cX8_possible 36 (.istore_n 1) 37 := ⟨by decide +kernel, rfl⟩
theorem dX8_possible_37 : uD 3 cX8_possible 37 (.iinc 2 1) 40 := ⟨by decide +kernel, rfl⟩
theorem dX8_possible_40 : uJ cX8_possible 40 (fun o => .goto o) 4 43 := ⟨(-36), by decide +kernel, by decide, rfl⟩
theorem dX8_possible_43 : uD 1 cX8_possible 43 (.iload_n 1) 44 := ⟨by decide +kernel, rfl⟩
theorem dX8_possible_44 : uD 1 cX8_possible 44 (.ireturn) 45 := ⟨by decide +kernel, rfl⟩
theorem dX8_bits_0 : uD 1 cX8_bits 0 (.iconst 0) 1 := ⟨by decide +kernel, rfl⟩
theorem dX8_bits_1 : uD 1 cX8_bits 1 (.istore_n 1) 2 := ⟨by decide +kernel, rfl⟩
theorem dX8_bits_2 : uD 1 cX8_bits 2 (.iconst 0) 3 := ⟨by decide +kernel, rfl⟩
theorem dX8_bits_3 : uD 1 cX8_bits 3 (.istore_n 2) 4 := ⟨by decide +kernel, rfl⟩
theorem dX8_bits_4 : uD 1 cX8_bits 4 (.iload_n 2) 5 := ⟨by decide +kernel, rfl⟩
theorem dX8_bits_5 : uD 2 cX8_bits 5 (.bipush 24) 7 := ⟨by decide +kernel, rfl⟩
theorem dX8_bits_7 : uJ cX8_bits 7 (fun o => .if_icmp .ge o) 24 10 := ⟨17, by decide +kernel, by decide, rfl⟩
theorem dX8_bits_10 : uD 1 cX8_bits 10 (.iload_n 1) 11 := ⟨by decide +kernel, rfl⟩
theorem dX8_bits_11 : uD 1 cX8_bits 11 (.iload_n 0) 12 := ⟨by decide +kernel, rfl⟩
theorem dX8_bits_12 : uD 1 cX8_bits 12 (.iload_n 2) 13 := ⟨by decide +kernel, rfl⟩
theorem dX8_bits_13 : uD 1 cX8_bits 13 (.ishr) 14 := ⟨by decide +kernel, rfl⟩
theorem dX8_bits_14 : uD 1 cX8_bits 14 (.iconst 1) 15 := ⟨by decide +kernel, rfl⟩
theorem dX8_bits_15 : uD 1 cX8_bits 15 (.iand) 16 := ⟨by decide +kernel, rfl⟩
theorem dX8_bits_16 : uD 1 cX8_bits 16 (.iadd) 17 := ⟨by decide +kernel, rfl⟩
theorem dX8_bits_17 : uD 1 cX8_bits 17 (.istore_n 1) 18 := ⟨by decide +kernel, rfl⟩
theorem dX8_bits_18 : uD 3 cX8_bits 18 (.iinc 2 1) 21 := ⟨by decide +kernel, rfl⟩
theorem dX8_bits_21 : uJ cX8_bits 21 (fun o => .goto o) 4 24 := ⟨(-17), by decide +kernel, by decide, rfl⟩
theorem dX8_bits_24 : uD 1 cX8_bits 24 (.iload_n 1) 25 := ⟨by decide +kernel, rfl⟩
theorem dX8_bits_25 : uD 1 cX8_bits 25 (.ireturn) 26 := ⟨by decide +kernel, rfl⟩
theorem dX8_valueIn_0 : uD 1 cX8_valueIn 0 (.iconst 0) 1 := ⟨by decide +kernel, rfl⟩
theorem dX8_valueIn_1 : uD 1 cX8_valueIn 1 (.istore_n 2) 2 := ⟨by decide +kernel, rfl⟩
theorem dX8_valueIn_2 : uD 1 cX8_valueIn 2 (.iconst 0) 3 := ⟨by decide +kernel, rfl⟩
theorem dX8_valueIn_3 : uD 1 cX8_valueIn 3 (.istore_n 3) 4 := ⟨by decide +kernel, rfl⟩
theorem dX8_valueIn_4 : uD 1 cX8_valueIn 4 (.iload_n 3) 5 := ⟨by decide +kernel, rfl⟩
theorem dX8_valueIn_5 : uD 1 cX8_valueIn 5 (.aload_n 0) 6 := ⟨by decide +kernel, rfl⟩
theorem dX8_valueIn_6 : uD 3 cX8_valueIn 6 (.getfield 7) 9 := ⟨by decide +kernel, rfl⟩
theorem dX8_valueIn_9 : uD 2 cX8_valueIn 9 (.bipush 36) 11 := ⟨by decide +kernel, rfl⟩
theorem dX8_valueIn_11 : uD 1 cX8_valueIn 11 (.iaload) 12 := ⟨by decide +kernel, rfl⟩
theorem dX8_valueIn_12 : uJ cX8_valueIn 12 (fun o => .if_icmp .ge o) 42 15 := ⟨30, by decide +kernel, by decide, rfl⟩
theorem dX8_valueIn_15 : uD 1 cX8_valueIn 15 (.iload_n 2) 16 := ⟨by decide +kernel, rfl⟩
theorem dX8_valueIn_16 : uD 1 cX8_valueIn 16 (.iload_n 1) 17 := ⟨by decide +kernel, rfl⟩
theorem dX8_valueIn_17 : uD 1 cX8_valueIn 17 (.iload_n 3) 18 := ⟨by decide +kernel, rfl⟩
theorem dX8_valueIn_18 : uD 3 cX8_valueIn 18 (.invokestatic 144) 21 := ⟨by decide +kernel, rfl⟩
theorem dX8_valueIn_21 : uJ cX8_valueIn 21 (fun o => .ifCond .eq o) 33 24 := ⟨12, by decide +kernel, by decide, rfl⟩
theorem dX8_valueIn_24 : uD 1 cX8_valueIn 24 (.aload_n 0) 25 := ⟨by decide +kernel, rfl⟩
theorem dX8_valueIn_25 : uD 1 cX8_valueIn 25 (.iload_n 3) 26 := ⟨by decide +kernel, rfl⟩
theorem dX8_valueIn_26 : uD 1 cX8_valueIn 26 (.iconst 1) 27 := ⟨by decide +kernel, rfl⟩
theorem dX8_valueIn_27 : uD 3 cX8_valueIn 27 (.invokevirtual 160) 30 := ⟨by decide +kernel, rfl⟩
theorem dX8_valueIn_30 : uJ cX8_valueIn 30 (fun o => .goto o) 34 33 := ⟨4, by decide +kernel, by decide, rfl⟩
theorem dX8_valueIn_33 : uD 1 cX8_valueIn 33 (.iconst 0) 34 := ⟨by decide +kernel, rfl⟩
theorem dX8_valueIn_34 : uD 1 cX8_valueIn 34 (.iadd) 35 := ⟨by decide +kernel, rfl⟩
theorem dX8_valueIn_35 : uD 1 cX8_valueIn 35 (.istore_n 2) 36 := ⟨by decide +kernel, rfl⟩
theorem dX8_valueIn_36 : uD 3 cX8_valueIn 36 (.iinc 3 1) 39 := ⟨by decide +kernel, rfl⟩
theorem dX8_valueIn_39 : uJ cX8_valueIn 39 (fun o => .goto o) 4 42 := ⟨(-35), by decide +kernel, by decide, rfl⟩
theorem dX8_valueIn_42 : uD 1 cX8_valueIn 42 (.iload_n 2) 43 := ⟨by decide +kernel, rfl⟩
theorem dX8_valueIn_43 : uD 1 cX8_valueIn 43 (.ireturn) 44 := ⟨by decide +kernel, rfl⟩
theorem dX8_energyIn_0 : uD 1 cX8_energyIn 0 (.iconst 0) 1 := ⟨by decide +kernel, rfl⟩
theorem dX8_energyIn_1 : uD 1 cX8_energyIn 1 (.istore_n 2) 2 := ⟨by decide +kernel, rfl⟩
theorem dX8_energyIn_2 : uD 1 cX8_energyIn 2 (.iconst (-1)) 3 := ⟨by decide +kernel, rfl⟩
theorem dX8_energyIn_3 : uD 1 cX8_energyIn 3 (.istore_n 3) 4 := ⟨by decide +kernel, rfl⟩
theorem dX8_energyIn_4 : uD 1 cX8_energyIn 4 (.iconst 0) 5 := ⟨by decide +kernel, rfl⟩
theorem dX8_energyIn_5 : uD 2 cX8_energyIn 5 (.istore 4) 7 := ⟨by decide +kernel, rfl⟩
theorem dX8_energyIn_7 : uD 2 cX8_energyIn 7 (.iload 4) 9 := ⟨by decide +kernel, rfl⟩
theorem dX8_energyIn_9 : uD 1 cX8_energyIn 9 (.aload_n 0) 10 := ⟨by decide +kernel, rfl⟩
theorem dX8_energyIn_10 : uD 3 cX8_energyIn 10 (.getfield 7) 13 := ⟨by decide +kernel, rfl⟩
theorem dX8_energyIn_13 : uD 2 cX8_energyIn 13 (.bipush 36) 15 := ⟨by decide +kernel, rfl⟩
theorem dX8_energyIn_15 : uD 1 cX8_energyIn 15 (.iaload) 16 := ⟨by decide +kernel, rfl⟩
theorem dX8_energyIn_16 : uJ cX8_energyIn 16 (fun o => .if_icmp .ge o) 159 19 := ⟨143, by decide +kernel, by decide, rfl⟩
theorem dX8_energyIn_19 : uD 1 cX8_energyIn 19 (.iload_n 1) 20 := ⟨by decide +kernel, rfl⟩
theorem dX8_energyIn_20 : uD 2 cX8_energyIn 20 (.iload 4) 22 := ⟨by decide +kernel, rfl⟩
theorem dX8_energyIn_22 : uD 3 cX8_energyIn 22 (.invokestatic 144) 25 := ⟨by decide +kernel, rfl⟩
theorem dX8_energyIn_25 : uJ cX8_energyIn 25 (fun o => .ifCond .ne o) 31 28 := ⟨6, by decide +kernel, by decide, rfl⟩
theorem dX8_energyIn_28 : uJ cX8_energyIn 28 (fun o => .goto o) 153 31 := ⟨125, by decide +kernel, by decide, rfl⟩
theorem dX8_energyIn_31 : uD 2 cX8_energyIn 31 (.bipush 10) 33 := ⟨by decide +kernel, rfl⟩
theorem dX8_energyIn_33 : uD 1 cX8_energyIn 33 (.iconst 3) 34 := ⟨by decide +kernel, rfl⟩
theorem dX8_energyIn_34 : uD 1 cX8_energyIn 34 (.aload_n 0) 35 := ⟨by decide +kernel, rfl⟩
theorem dX8_energyIn_35 : uD 2 cX8_energyIn 35 (.iload 4) 37 := ⟨by decide +kernel, rfl⟩
theorem dX8_energyIn_37 : uD 3 cX8_energyIn 37 (.invokevirtual 166) 40 := ⟨by decide +kernel, rfl⟩
theorem dX8_energyIn_40 : uD 1 cX8_energyIn 40 (.imul) 41 := ⟨by decide +kernel, rfl⟩
theorem dX8_energyIn_41 : uD 1 cX8_energyIn 41 (.iadd) 42 := ⟨by decide +kernel, rfl⟩
theorem dX8_energyIn_42 : uD 2 cX8_energyIn 42 (.istore 5) 44 := ⟨by decide +kernel, rfl⟩
theorem dX8_energyIn_44 : uD 1 cX8_energyIn 44 (.iload_n 3) 45 := ⟨by decide +kernel, rfl⟩
theorem dX8_energyIn_45 : uD 1 cX8_energyIn 45 (.iconst (-1)) 46 := ⟨by decide +kernel, rfl⟩
theorem dX8_energyIn_46 : uJ cX8_energyIn 46 (fun o => .if_icmp .eq o) 63 49 := ⟨17, by decide +kernel, by decide, rfl⟩
theorem dX8_energyIn_49 : uD 1 cX8_energyIn 49 (.aload_n 0) 50 := ⟨by decide +kernel, rfl⟩
theorem dX8_energyIn_50 : uD 1 cX8_energyIn 50 (.iload_n 3) 51 := ⟨by decide +kernel, rfl⟩
theorem dX8_energyIn_51 : uD 3 cX8_energyIn 51 (.invokevirtual 166) 54 := ⟨by decide +kernel, rfl⟩
theorem dX8_energyIn_54 : uD 1 cX8_energyIn 54 (.aload_n 0) 55 := ⟨by decide +kernel, rfl⟩
theorem dX8_energyIn_55 : uD 2 cX8_energyIn 55 (.iload 4) 57 := ⟨by decide +kernel, rfl⟩
theorem dX8_energyIn_57 : uD 3 cX8_energyIn 57 (.invokevirtual 166) 60 := ⟨by decide +kernel, rfl⟩
theorem dX8_energyIn_60 : uJ cX8_energyIn 60 (fun o => .if_icmp .eq o) 67 63 := ⟨7, by decide +kernel, by decide, rfl⟩
theorem dX8_energyIn_63 : uD 1 cX8_energyIn 63 (.iconst 1) 64 := ⟨by decide +kernel, rfl⟩
theorem dX8_energyIn_64 : uJ cX8_energyIn 64 (fun o => .goto o) 68 67 := ⟨4, by decide +kernel, by decide, rfl⟩
theorem dX8_energyIn_67 : uD 1 cX8_energyIn 67 (.iconst 0) 68 := ⟨by decide +kernel, rfl⟩
theorem dX8_energyIn_68 : uD 2 cX8_energyIn 68 (.istore 6) 70 := ⟨by decide +kernel, rfl⟩
theorem dX8_energyIn_70 : uD 2 cX8_energyIn 70 (.iload 6) 72 := ⟨by decide +kernel, rfl⟩
theorem dX8_energyIn_72 : uJ cX8_energyIn 72 (fun o => .ifCond .ne o) 97 75 := ⟨25, by decide +kernel, by decide, rfl⟩
theorem dX8_energyIn_75 : uD 1 cX8_energyIn 75 (.aload_n 0) 76 := ⟨by decide +kernel, rfl⟩
theorem dX8_energyIn_76 : uD 1 cX8_energyIn 76 (.iload_n 3) 77 := ⟨by decide +kernel, rfl⟩
theorem dX8_energyIn_77 : uD 1 cX8_energyIn 77 (.iconst 0) 78 := ⟨by decide +kernel, rfl⟩
theorem dX8_energyIn_78 : uD 3 cX8_energyIn 78 (.invokevirtual 160) 81 := ⟨by decide +kernel, rfl⟩
theorem dX8_energyIn_81 : uD 1 cX8_energyIn 81 (.iconst 1) 82 := ⟨by decide +kernel, rfl⟩
theorem dX8_energyIn_82 : uD 1 cX8_energyIn 82 (.iadd) 83 := ⟨by decide +kernel, rfl⟩
theorem dX8_energyIn_83 : uD 1 cX8_energyIn 83 (.aload_n 0) 84 := ⟨by decide +kernel, rfl⟩
theorem dX8_energyIn_84 : uD 2 cX8_energyIn 84 (.iload 4) 86 := ⟨by decide +kernel, rfl⟩
theorem dX8_energyIn_86 : uD 1 cX8_energyIn 86 (.iconst 0) 87 := ⟨by decide +kernel, rfl⟩
theorem dX8_energyIn_87 : uD 3 cX8_energyIn 87 (.invokevirtual 160) 90 := ⟨by decide +kernel, rfl⟩
theorem dX8_energyIn_90 : uJ cX8_energyIn 90 (fun o => .if_icmp .ne o) 97 93 := ⟨7, by decide +kernel, by decide, rfl⟩
theorem dX8_energyIn_93 : uD 1 cX8_energyIn 93 (.iconst 1) 94 := ⟨by decide +kernel, rfl⟩
theorem dX8_energyIn_94 : uJ cX8_energyIn 94 (fun o => .goto o) 98 97 := ⟨4, by decide +kernel, by decide, rfl⟩
theorem dX8_energyIn_97 : uD 1 cX8_energyIn 97 (.iconst 0) 98 := ⟨by decide +kernel, rfl⟩
theorem dX8_energyIn_98 : uD 2 cX8_energyIn 98 (.istore 7) 100 := ⟨by decide +kernel, rfl⟩
theorem dX8_energyIn_100 : uD 1 cX8_energyIn 100 (.iload_n 2) 101 := ⟨by decide +kernel, rfl⟩
theorem dX8_energyIn_101 : uD 2 cX8_energyIn 101 (.iload 6) 103 := ⟨by decide +kernel, rfl⟩
theorem dX8_energyIn_103 : uJ cX8_energyIn 103 (fun o => .ifCond .eq o) 118 106 := ⟨15, by decide +kernel, by decide, rfl⟩
theorem dX8_energyIn_106 : uD 1 cX8_energyIn 106 (.aload_n 0) 107 := ⟨by decide +kernel, rfl⟩
theorem dX8_energyIn_107 : uD 3 cX8_energyIn 107 (.getfield 7) 110 := ⟨by decide +kernel, rfl⟩
theorem dX8_energyIn_110 : uD 2 cX8_energyIn 110 (.iload 5) 112 := ⟨by decide +kernel, rfl⟩
theorem dX8_energyIn_112 : uD 1 cX8_energyIn 112 (.iconst 0) 113 := ⟨by decide +kernel, rfl⟩
theorem dX8_energyIn_113 : uD 1 cX8_energyIn 113 (.iadd) 114 := ⟨by decide +kernel, rfl⟩
theorem dX8_energyIn_114 : uD 1 cX8_energyIn 114 (.iaload) 115 := ⟨by decide +kernel, rfl⟩
theorem dX8_energyIn_115 : uJ cX8_energyIn 115 (fun o => .goto o) 119 118 := ⟨4, by decide +kernel, by decide, rfl⟩
theorem dX8_energyIn_118 : uD 1 cX8_energyIn 118 (.iconst 0) 119 := ⟨by decide +kernel, rfl⟩
theorem dX8_energyIn_119 : uD 2 cX8_energyIn 119 (.iload 7) 121 := ⟨by decide +kernel, rfl⟩
theorem dX8_energyIn_121 : uJ cX8_energyIn 121 (fun o => .ifCond .eq o) 128 124 := ⟨7, by decide +kernel, by decide, rfl⟩
theorem dX8_energyIn_124 : uD 1 cX8_energyIn 124 (.iconst 0) 125 := ⟨by decide +kernel, rfl⟩
theorem dX8_energyIn_125 : uJ cX8_energyIn 125 (fun o => .goto o) 137 128 := ⟨12, by decide +kernel, by decide, rfl⟩
theorem dX8_energyIn_128 : uD 1 cX8_energyIn 128 (.aload_n 0) 129 := ⟨by decide +kernel, rfl⟩
theorem dX8_energyIn_129 : uD 3 cX8_energyIn 129 (.getfield 7) 132 := ⟨by decide +kernel, rfl⟩
theorem dX8_energyIn_132 : uD 2 cX8_energyIn 132 (.iload 5) 134 := ⟨by decide +kernel, rfl⟩
theorem dX8_energyIn_134 : uD 1 cX8_energyIn 134 (.iconst 1) 135 := ⟨by decide +kernel, rfl⟩
theorem dX8_energyIn_135 : uD 1 cX8_energyIn 135 (.iadd) 136 := ⟨by decide +kernel, rfl⟩
theorem dX8_energyIn_136 : uD 1 cX8_energyIn 136 (.iaload) 137 := ⟨by decide +kernel, rfl⟩
theorem dX8_energyIn_137 : uD 1 cX8_energyIn 137 (.iadd) 138 := ⟨by decide +kernel, rfl⟩
theorem dX8_energyIn_138 : uD 1 cX8_energyIn 138 (.aload_n 0) 139 := ⟨by decide +kernel, rfl⟩
theorem dX8_energyIn_139 : uD 3 cX8_energyIn 139 (.getfield 7) 142 := ⟨by decide +kernel, rfl⟩
theorem dX8_energyIn_142 : uD 2 cX8_energyIn 142 (.iload 5) 144 := ⟨by decide +kernel, rfl⟩
theorem dX8_energyIn_144 : uD 1 cX8_energyIn 144 (.iconst 2) 145 := ⟨by decide +kernel, rfl⟩
theorem dX8_energyIn_145 : uD 1 cX8_energyIn 145 (.iadd) 146 := ⟨by decide +kernel, rfl⟩
theorem dX8_energyIn_146 : uD 1 cX8_energyIn 146 (.iaload) 147 := ⟨by decide +kernel, rfl⟩
theorem dX8_energyIn_147 : uD 1 cX8_energyIn 147 (.iadd) 148 := ⟨by decide +kernel, rfl⟩
theorem dX8_energyIn_148 : uD 1 cX8_energyIn 148 (.iadd) 149 := ⟨by decide +kernel, rfl⟩
theorem dX8_energyIn_149 : uD 1 cX8_energyIn 149 (.istore_n 2) 150 := ⟨by decide +kernel, rfl⟩
theorem dX8_energyIn_150 : uD 2 cX8_energyIn 150 (.iload 4) 152 := ⟨by decide +kernel, rfl⟩
theorem dX8_energyIn_152 : uD 1 cX8_energyIn 152 (.istore_n 3) 153 := ⟨by decide +kernel, rfl⟩
theorem dX8_energyIn_153 : uD 3 cX8_energyIn 153 (.iinc 4 1) 156 := ⟨by decide +kernel, rfl⟩
theorem dX8_energyIn_156 : uJ cX8_energyIn 156 (fun o => .goto o) 7 159 := ⟨(-149), by decide +kernel, by decide, rfl⟩
theorem dX8_energyIn_159 : uD 1 cX8_energyIn 159 (.iload_n 2) 160 := ⟨by decide +kernel, rfl⟩
theorem dX8_energyIn_160 : uD 1 cX8_energyIn 160 (.ireturn) 161 := ⟨by decide +kernel, rfl⟩
theorem dX8_needed_0 : uD 1 cX8_needed 0 (.aload_n 0) 1 := ⟨by decide +kernel, rfl⟩
theorem dX8_needed_1 : uD 1 cX8_needed 1 (.aload_n 0) 2 := ⟨by decide +kernel, rfl⟩
theorem dX8_needed_2 : uD 3 cX8_needed 2 (.invokevirtual 172) 5 := ⟨by decide +kernel, rfl⟩
theorem dX8_needed_5 : uD 3 cX8_needed 5 (.invokevirtual 175) 8 := ⟨by decide +kernel, rfl⟩
theorem dX8_needed_8 : uD 1 cX8_needed 8 (.ireturn) 9 := ⟨by decide +kernel, rfl⟩
theorem dX8_report_0 : uD 1 cX8_report 0 (.aload_n 0) 1 := ⟨by decide +kernel, rfl⟩
theorem dX8_report_1 : uD 1 cX8_report 1 (.iconst 0) 2 := ⟨by decide +kernel, rfl⟩
theorem dX8_report_2 : uD 3 cX8_report 2 (.putfield 49) 5 := ⟨by decide +kernel, rfl⟩
theorem dX8_report_5 : uD 1 cX8_report 5 (.aload_n 0) 6 := ⟨by decide +kernel, rfl⟩
theorem dX8_report_6 : uD 1 cX8_report 6 (.iload_n 1) 7 := ⟨by decide +kernel, rfl⟩
theorem dX8_report_7 : uD 1 cX8_report 7 (.iconst 0) 8 := ⟨by decide +kernel, rfl⟩
theorem dX8_report_8 : uD 2 cX8_report 8 (.bipush 8) 10 := ⟨by decide +kernel, rfl⟩
theorem dX8_report_10 : uD 3 cX8_report 10 (.invokestatic 59) 13 := ⟨by decide +kernel, rfl⟩
theorem dX8_report_13 : uD 1 cX8_report 13 (.iconst 1) 14 := ⟨by decide +kernel, rfl⟩
theorem dX8_report_14 : uD 3 cX8_report 14 (.invokevirtual 55) 17 := ⟨by decide +kernel, rfl⟩
theorem dX8_report_17 : uJ cX8_report 17 (fun o => .ifCond .ne o) 22 20 := ⟨5, by decide +kernel, by decide, rfl⟩
theorem dX8_report_20 : uD 1 cX8_report 20 (.iconst 0) 21 := ⟨by decide +kernel, rfl⟩
theorem dX8_report_21 : uD 1 cX8_report 21 (.ireturn) 22 := ⟨by decide +kernel, rfl⟩
theorem dX8_report_22 : uD 1 cX8_report 22 (.iload_n 1) 23 := ⟨by decide +kernel, rfl⟩
theorem dX8_report_23 : uD 45 cX8_report 23 (.tableswitch 107 0 7 #[45, 52, 59, 67, 75, 83, 91, 99]) 68 := ⟨by decide +kernel, rfl⟩
theorem dX8_report_68 : uD 1 cX8_report 68 (.aload_n 0) 69 := ⟨by decide +kernel, rfl⟩
theorem dX8_report_69 : uD 3 cX8_report 69 (.getfield 7) 72 := ⟨by decide +kernel, rfl⟩
theorem dX8_report_72 : uD 1 cX8_report 72 (.iconst 0) 73 := ⟨by decide +kernel, rfl⟩
theorem dX8_report_73 : uD 1 cX8_report 73 (.iaload) 74 := ⟨by decide +kernel, rfl⟩
theorem dX8_report_74 : uD 1 cX8_report 74 (.ireturn) 75 := ⟨by decide +kernel, rfl⟩
theorem dX8_report_75 : uD 1 cX8_report 75 (.aload_n 0) 76 := ⟨by decide +kernel, rfl⟩
theorem dX8_report_76 : uD 3 cX8_report 76 (.getfield 7) 79 := ⟨by decide +kernel, rfl⟩
theorem dX8_report_79 : uD 1 cX8_report 79 (.iconst 1) 80 := ⟨by decide +kernel, rfl⟩
theorem dX8_report_80 : uD 1 cX8_report 80 (.iaload) 81 := ⟨by decide +kernel, rfl⟩
theorem dX8_report_81 : uD 1 cX8_report 81 (.ireturn) 82 := ⟨by decide +kernel, rfl⟩
theorem dX8_report_82 : uD 1 cX8_report 82 (.aload_n 0) 83 := ⟨by decide +kernel, rfl⟩
theorem dX8_report_83 : uD 3 cX8_report 83 (.getfield 7) 86 := ⟨by decide +kernel, rfl⟩
theorem dX8_report_86 : uD 2 cX8_report 86 (.bipush 26) 88 := ⟨by decide +kernel, rfl⟩
theorem dX8_report_88 : uD 1 cX8_report 88 (.iaload) 89 := ⟨by decide +kernel, rfl⟩
theorem dX8_report_89 : uD 1 cX8_report 89 (.ireturn) 90 := ⟨by decide +kernel, rfl⟩
theorem dX8_report_90 : uD 1 cX8_report 90 (.aload_n 0) 91 := ⟨by decide +kernel, rfl⟩
theorem dX8_report_91 : uD 3 cX8_report 91 (.getfield 7) 94 := ⟨by decide +kernel, rfl⟩
theorem dX8_report_94 : uD 2 cX8_report 94 (.bipush 27) 96 := ⟨by decide +kernel, rfl⟩
theorem dX8_report_96 : uD 1 cX8_report 96 (.iaload) 97 := ⟨by decide +kernel, rfl⟩
theorem dX8_report_97 : uD 1 cX8_report 97 (.ireturn) 98 := ⟨by decide +kernel, rfl⟩
theorem dX8_report_98 : uD 1 cX8_report 98 (.aload_n 0) 99 := ⟨by decide +kernel, rfl⟩
theorem dX8_report_99 : uD 3 cX8_report 99 (.getfield 7) 102 := ⟨by decide +kernel, rfl⟩
theorem dX8_report_102 : uD 2 cX8_report 102 (.bipush 36) 104 := ⟨by decide +kernel, rfl⟩
theorem dX8_report_104 : uD 1 cX8_report 104 (.iaload) 105 := ⟨by decide +kernel, rfl⟩
theorem dX8_report_105 : uD 1 cX8_report 105 (.ireturn) 106 := ⟨by decide +kernel, rfl⟩
theorem dX8_report_106 : uD 1 cX8_report 106 (.aload_n 0) 107 := ⟨by decide +kernel, rfl⟩
theorem dX8_report_107 : uD 3 cX8_report 107 (.getfield 7) 110 := ⟨by decide +kernel, rfl⟩
theorem dX8_report_110 : uD 2 cX8_report 110 (.bipush 9) 112 := ⟨by decide +kernel, rfl⟩
theorem dX8_report_112 : uD 1 cX8_report 112 (.iaload) 113 := ⟨by decide +kernel, rfl⟩
theorem dX8_report_113 : uD 1 cX8_report 113 (.ireturn) 114 := ⟨by decide +kernel, rfl⟩
theorem dX8_report_114 : uD 1 cX8_report 114 (.aload_n 0) 115 := ⟨by decide +kernel, rfl⟩
theorem dX8_report_115 : uD 3 cX8_report 115 (.getfield 7) 118 := ⟨by decide +kernel, rfl⟩
theorem dX8_report_118 : uD 2 cX8_report 118 (.bipush 7) 120 := ⟨by decide +kernel, rfl⟩
theorem dX8_report_120 : uD 1 cX8_report 120 (.iaload) 121 := ⟨by decide +kernel, rfl⟩
theorem dX8_report_121 : uD 1 cX8_report 121 (.ireturn) 122 := ⟨by decide +kernel, rfl⟩
theorem dX8_report_122 : uD 1 cX8_report 122 (.aload_n 0) 123 := ⟨by decide +kernel, rfl⟩
theorem dX8_report_123 : uD 3 cX8_report 123 (.getfield 7) 126 := ⟨by decide +kernel, rfl⟩
theorem dX8_report_126 : uD 2 cX8_report 126 (.bipush 8) 128 := ⟨by decide +kernel, rfl⟩
theorem dX8_report_128 : uD 1 cX8_report 128 (.iaload) 129 := ⟨by decide +kernel, rfl⟩
theorem dX8_report_129 : uD 1 cX8_report 129 (.ireturn) 130 := ⟨by decide +kernel, rfl⟩
theorem dX8_report_130 : uD 1 cX8_report 130 (.aload_n 0) 131 := ⟨by decide +kernel, rfl⟩
theorem dX8_report_131 : uD 3 cX8_report 131 (.getfield 7) 134 := ⟨by decide +kernel, rfl⟩
theorem dX8_report_134 : uD 2 cX8_report 134 (.bipush 28) 136 := ⟨by decide +kernel, rfl⟩
theorem dX8_report_136 : uD 1 cX8_report 136 (.iaload) 137 := ⟨by decide +kernel, rfl⟩
theorem dX8_report_137 : uD 1 cX8_report 137 (.ireturn) 138 := ⟨by decide +kernel, rfl⟩
theorem dX8_device_0 : uD 1 cX8_device 0 (.aload_n 0) 1 := ⟨by decide +kernel, rfl⟩
theorem dX8_device_1 : uD 1 cX8_device 1 (.iconst 0) 2 := ⟨by decide +kernel, rfl⟩
theorem dX8_device_2 : uD 3 cX8_device 2 (.putfield 49) 5 := ⟨by decide +kernel, rfl⟩
theorem dX8_device_5 : uD 1 cX8_device 5 (.aload_n 0) 6 := ⟨by decide +kernel, rfl⟩
theorem dX8_device_6 : uD 1 cX8_device 6 (.aload_n 0) 7 := ⟨by decide +kernel, rfl⟩
theorem dX8_device_7 : uD 1 cX8_device 7 (.iload_n 1) 8 := ⟨by decide +kernel, rfl⟩
theorem dX8_device_8 : uD 3 cX8_device 8 (.invokevirtual 178) 11 := ⟨by decide +kernel, rfl⟩
theorem dX8_device_11 : uD 1 cX8_device 11 (.iconst 1) 12 := ⟨by decide +kernel, rfl⟩
theorem dX8_device_12 : uD 3 cX8_device 12 (.invokevirtual 55) 15 := ⟨by decide +kernel, rfl⟩
theorem dX8_device_15 : uJ cX8_device 15 (fun o => .ifCond .eq o) 33 18 := ⟨18, by decide +kernel, by decide, rfl⟩
theorem dX8_device_18 : uD 1 cX8_device 18 (.aload_n 0) 19 := ⟨by decide +kernel, rfl⟩
theorem dX8_device_19 : uD 1 cX8_device 19 (.iload_n 2) 20 := ⟨by decide +kernel, rfl⟩
theorem dX8_device_20 : uD 1 cX8_device 20 (.iconst 0) 21 := ⟨by decide +kernel, rfl⟩
theorem dX8_device_21 : uD 2 cX8_device 21 (.bipush 6) 23 := ⟨by decide +kernel, rfl⟩
theorem dX8_device_23 : uD 3 cX8_device 23 (.invokestatic 59) 26 := ⟨by decide +kernel, rfl⟩
theorem dX8_device_26 : uD 1 cX8_device 26 (.iconst 2) 27 := ⟨by decide +kernel, rfl⟩
theorem dX8_device_27 : uD 3 cX8_device 27 (.invokevirtual 55) 30 := ⟨by decide +kernel, rfl⟩
theorem dX8_device_30 : uJ cX8_device 30 (fun o => .ifCond .ne o) 35 33 := ⟨5, by decide +kernel, by decide, rfl⟩
theorem dX8_device_33 : uD 1 cX8_device 33 (.iconst 0) 34 := ⟨by decide +kernel, rfl⟩
theorem dX8_device_34 : uD 1 cX8_device 34 (.ireturn) 35 := ⟨by decide +kernel, rfl⟩
theorem dX8_device_35 : uD 1 cX8_device 35 (.iload_n 2) 36 := ⟨by decide +kernel, rfl⟩
theorem dX8_device_36 : uD 1 cX8_device 36 (.iconst 3) 37 := ⟨by decide +kernel, rfl⟩
theorem dX8_device_37 : uJ cX8_device 37 (fun o => .if_icmp .ge o) 54 40 := ⟨17, by decide +kernel, by decide, rfl⟩
theorem dX8_device_40 : uD 1 cX8_device 40 (.aload_n 0) 41 := ⟨by decide +kernel, rfl⟩
theorem dX8_device_41 : uD 3 cX8_device 41 (.getfield 7) 44 := ⟨by decide +kernel, rfl⟩
theorem dX8_device_44 : uD 2 cX8_device 44 (.bipush 10) 46 := ⟨by decide +kernel, rfl⟩
theorem dX8_device_46 : uD 1 cX8_device 46 (.iconst 3) 47 := ⟨by decide +kernel, rfl⟩
theorem dX8_device_47 : uD 1 cX8_device 47 (.iload_n 1) 48 := ⟨by decide +kernel, rfl⟩
theorem dX8_device_48 : uD 1 cX8_device 48 (.imul) 49 := ⟨by decide +kernel, rfl⟩
theorem dX8_device_49 : uD 1 cX8_device 49 (.iadd) 50 := ⟨by decide +kernel, rfl⟩
theorem dX8_device_50 : uD 1 cX8_device 50 (.iload_n 2) 51 := ⟨by decide +kernel, rfl⟩
theorem dX8_device_51 : uD 1 cX8_device 51 (.iadd) 52 := ⟨by decide +kernel, rfl⟩
theorem dX8_device_52 : uD 1 cX8_device 52 (.iaload) 53 := ⟨by decide +kernel, rfl⟩
theorem dX8_device_53 : uD 1 cX8_device 53 (.ireturn) 54 := ⟨by decide +kernel, rfl⟩
theorem dX8_device_54 : uD 1 cX8_device 54 (.iload_n 2) 55 := ⟨by decide +kernel, rfl⟩
theorem dX8_device_55 : uD 1 cX8_device 55 (.iconst 3) 56 := ⟨by decide +kernel, rfl⟩
theorem dX8_device_56 : uJ cX8_device 56 (fun o => .if_icmp .ne o) 73 59 := ⟨17, by decide +kernel, by decide, rfl⟩
theorem dX8_device_59 : uD 1 cX8_device 59 (.aload_n 0) 60 := ⟨by decide +kernel, rfl⟩
theorem dX8_device_60 : uD 1 cX8_device 60 (.iload_n 1) 61 := ⟨by decide +kernel, rfl⟩
theorem dX8_device_61 : uD 3 cX8_device 61 (.invokevirtual 169) 64 := ⟨by decide +kernel, rfl⟩
theorem dX8_device_64 : uJ cX8_device 64 (fun o => .ifCond .eq o) 71 67 := ⟨7, by decide +kernel, by decide, rfl⟩
theorem dX8_device_67 : uD 1 cX8_device 67 (.iconst 1) 68 := ⟨by decide +kernel, rfl⟩
theorem dX8_device_68 : uJ cX8_device 68 (fun o => .goto o) 72 71 := ⟨4, by decide +kernel, by decide, rfl⟩
theorem dX8_device_71 : uD 1 cX8_device 71 (.iconst 0) 72 := ⟨by decide +kernel, rfl⟩
theorem dX8_device_72 : uD 1 cX8_device 72 (.ireturn) 73 := ⟨by decide +kernel, rfl⟩
theorem dX8_device_73 : uD 1 cX8_device 73 (.aload_n 0) 74 := ⟨by decide +kernel, rfl⟩
theorem dX8_device_74 : uD 1 cX8_device 74 (.iload_n 1) 75 := ⟨by decide +kernel, rfl⟩
theorem dX8_device_75 : uD 3 cX8_device 75 (.invokevirtual 181) 78 := ⟨by decide +kernel, rfl⟩
theorem dX8_device_78 : uD 1 cX8_device 78 (.istore_n 3) 79 := ⟨by decide +kernel, rfl⟩
theorem dX8_device_79 : uD 1 cX8_device 79 (.iload_n 2) 80 := ⟨by decide +kernel, rfl⟩
theorem dX8_device_80 : uD 1 cX8_device 80 (.iconst 4) 81 := ⟨by decide +kernel, rfl⟩
theorem dX8_device_81 : uJ cX8_device 81 (fun o => .if_icmp .ne o) 91 84 := ⟨10, by decide +kernel, by decide, rfl⟩
theorem dX8_device_84 : uD 1 cX8_device 84 (.iload_n 3) 85 := ⟨by decide +kernel, rfl⟩
theorem dX8_device_85 : uD 3 cX8_device 85 (.invokestatic 184) 88 := ⟨by decide +kernel, rfl⟩
theorem dX8_device_88 : uJ cX8_device 88 (fun o => .goto o) 109 91 := ⟨21, by decide +kernel, by decide, rfl⟩
theorem dX8_device_91 : uD 1 cX8_device 91 (.iload_n 2) 92 := ⟨by decide +kernel, rfl⟩
theorem dX8_device_92 : uD 1 cX8_device 92 (.iconst 5) 93 := ⟨by decide +kernel, rfl⟩
theorem dX8_device_93 : uJ cX8_device 93 (fun o => .if_icmp .ne o) 104 96 := ⟨11, by decide +kernel, by decide, rfl⟩
theorem dX8_device_96 : uD 1 cX8_device 96 (.aload_n 0) 97 := ⟨by decide +kernel, rfl⟩
theorem dX8_device_97 : uD 1 cX8_device 97 (.iload_n 3) 98 := ⟨by decide +kernel, rfl⟩
theorem dX8_device_98 : uD 3 cX8_device 98 (.invokevirtual 187) 101 := ⟨by decide +kernel, rfl⟩
theorem dX8_device_101 : uJ cX8_device 101 (fun o => .goto o) 109 104 := ⟨8, by decide +kernel, by decide, rfl⟩
theorem dX8_device_104 : uD 1 cX8_device 104 (.aload_n 0) 105 := ⟨by decide +kernel, rfl⟩
theorem dX8_device_105 : uD 1 cX8_device 105 (.iload_n 3) 106 := ⟨by decide +kernel, rfl⟩
theorem dX8_device_106 : uD 3 cX8_device 106 (.invokevirtual 175) 109 := ⟨by decide +kernel, rfl⟩
theorem dX8_device_109 : uD 1 cX8_device 109 (.ireturn) 110 := ⟨by decide +kernel, rfl⟩
theorem dX8_block_0 : uD 1 cX8_block 0 (.aload_n 0) 1 := ⟨by decide +kernel, rfl⟩
theorem dX8_block_1 : uD 1 cX8_block 1 (.iconst 0) 2 := ⟨by decide +kernel, rfl⟩
theorem dX8_block_2 : uD 3 cX8_block 2 (.putfield 49) 5 := ⟨by decide +kernel, rfl⟩
theorem dX8_block_5 : uD 1 cX8_block 5 (.aload_n 0) 6 := ⟨by decide +kernel, rfl⟩
theorem dX8_block_6 : uD 1 cX8_block 6 (.aload_n 0) 7 := ⟨by decide +kernel, rfl⟩
theorem dX8_block_7 : uD 1 cX8_block 7 (.iload_n 1) 8 := ⟨by decide +kernel, rfl⟩
theorem dX8_block_8 : uD 3 cX8_block 8 (.invokevirtual 190) 11 := ⟨by decide +kernel, rfl⟩
theorem dX8_block_11 : uD 1 cX8_block 11 (.iconst 1) 12 := ⟨by decide +kernel, rfl⟩
theorem dX8_block_12 : uD 3 cX8_block 12 (.invokevirtual 55) 15 := ⟨by decide +kernel, rfl⟩
theorem dX8_block_15 : uJ cX8_block 15 (fun o => .ifCond .eq o) 32 18 := ⟨17, by decide +kernel, by decide, rfl⟩
theorem dX8_block_18 : uD 1 cX8_block 18 (.aload_n 0) 19 := ⟨by decide +kernel, rfl⟩
theorem dX8_block_19 : uD 1 cX8_block 19 (.iload_n 2) 20 := ⟨by decide +kernel, rfl⟩
theorem dX8_block_20 : uD 1 cX8_block 20 (.iconst 0) 21 := ⟨by decide +kernel, rfl⟩
theorem dX8_block_21 : uD 1 cX8_block 21 (.iconst 3) 22 := ⟨by decide +kernel, rfl⟩
theorem dX8_block_22 : uD 3 cX8_block 22 (.invokestatic 59) 25 := ⟨by decide +kernel, rfl⟩
theorem dX8_block_25 : uD 1 cX8_block 25 (.iconst 2) 26 := ⟨by decide +kernel, rfl⟩
theorem dX8_block_26 : uD 3 cX8_block 26 (.invokevirtual 55) 29 := ⟨by decide +kernel, rfl⟩
theorem dX8_block_29 : uJ cX8_block 29 (fun o => .ifCond .ne o) 34 32 := ⟨5, by decide +kernel, by decide, rfl⟩
theorem dX8_block_32 : uD 1 cX8_block 32 (.iconst 0) 33 := ⟨by decide +kernel, rfl⟩
theorem dX8_block_33 : uD 1 cX8_block 33 (.ireturn) 34 := ⟨by decide +kernel, rfl⟩
theorem dX8_block_34 : uD 1 cX8_block 34 (.iload_n 2) 35 := ⟨by decide +kernel, rfl⟩
theorem dX8_block_35 : uJ cX8_block 35 (fun o => .ifCond .ne o) 46 38 := ⟨11, by decide +kernel, by decide, rfl⟩
theorem dX8_block_38 : uD 1 cX8_block 38 (.aload_n 0) 39 := ⟨by decide +kernel, rfl⟩
theorem dX8_block_39 : uD 1 cX8_block 39 (.iload_n 1) 40 := ⟨by decide +kernel, rfl⟩
theorem dX8_block_40 : uD 3 cX8_block 40 (.invokevirtual 166) 43 := ⟨by decide +kernel, rfl⟩
theorem dX8_block_43 : uJ cX8_block 43 (fun o => .goto o) 91 46 := ⟨48, by decide +kernel, by decide, rfl⟩
theorem dX8_block_46 : uD 1 cX8_block 46 (.iload_n 2) 47 := ⟨by decide +kernel, rfl⟩
theorem dX8_block_47 : uD 1 cX8_block 47 (.iconst 1) 48 := ⟨by decide +kernel, rfl⟩
theorem dX8_block_48 : uJ cX8_block 48 (fun o => .if_icmp .ne o) 63 51 := ⟨15, by decide +kernel, by decide, rfl⟩
theorem dX8_block_51 : uD 1 cX8_block 51 (.aload_n 0) 52 := ⟨by decide +kernel, rfl⟩
theorem dX8_block_52 : uD 1 cX8_block 52 (.iload_n 1) 53 := ⟨by decide +kernel, rfl⟩
theorem dX8_block_53 : uD 1 cX8_block 53 (.iconst 0) 54 := ⟨by decide +kernel, rfl⟩
theorem dX8_block_54 : uD 3 cX8_block 54 (.invokevirtual 160) 57 := ⟨by decide +kernel, rfl⟩
theorem dX8_block_57 : uD 2 cX8_block 57 (.bipush 100) 59 := ⟨by decide +kernel, rfl⟩
theorem dX8_block_59 : uD 1 cX8_block 59 (.irem) 60 := ⟨by decide +kernel, rfl⟩
theorem dX8_block_60 : uJ cX8_block 60 (fun o => .goto o) 91 63 := ⟨31, by decide +kernel, by decide, rfl⟩
theorem dX8_block_63 : uD 1 cX8_block 63 (.iload_n 2) 64 := ⟨by decide +kernel, rfl⟩
theorem dX8_block_64 : uD 1 cX8_block 64 (.iconst 2) 65 := ⟨by decide +kernel, rfl⟩
theorem dX8_block_65 : uJ cX8_block 65 (fun o => .if_icmp .ne o) 77 68 := ⟨12, by decide +kernel, by decide, rfl⟩
theorem dX8_block_68 : uD 1 cX8_block 68 (.aload_n 0) 69 := ⟨by decide +kernel, rfl⟩
theorem dX8_block_69 : uD 1 cX8_block 69 (.iload_n 1) 70 := ⟨by decide +kernel, rfl⟩
theorem dX8_block_70 : uD 1 cX8_block 70 (.iconst 1) 71 := ⟨by decide +kernel, rfl⟩
theorem dX8_block_71 : uD 3 cX8_block 71 (.invokevirtual 160) 74 := ⟨by decide +kernel, rfl⟩
theorem dX8_block_74 : uJ cX8_block 74 (fun o => .goto o) 91 77 := ⟨17, by decide +kernel, by decide, rfl⟩
theorem dX8_block_77 : uD 1 cX8_block 77 (.aload_n 0) 78 := ⟨by decide +kernel, rfl⟩
theorem dX8_block_78 : uD 3 cX8_block 78 (.getfield 7) 81 := ⟨by decide +kernel, rfl⟩
theorem dX8_block_81 : uD 2 cX8_block 81 (.bipush 26) 83 := ⟨by decide +kernel, rfl⟩
theorem dX8_block_83 : uD 1 cX8_block 83 (.iaload) 84 := ⟨by decide +kernel, rfl⟩
theorem dX8_block_84 : uD 1 cX8_block 84 (.aload_n 0) 85 := ⟨by decide +kernel, rfl⟩
theorem dX8_block_85 : uD 1 cX8_block 85 (.iload_n 1) 86 := ⟨by decide +kernel, rfl⟩
theorem dX8_block_86 : uD 1 cX8_block 86 (.iconst 2) 87 := ⟨by decide +kernel, rfl⟩
theorem dX8_block_87 : uD 3 cX8_block 87 (.invokevirtual 160) 90 := ⟨by decide +kernel, rfl⟩
theorem dX8_block_90 : uD 1 cX8_block 90 (.isub) 91 := ⟨by decide +kernel, rfl⟩
theorem dX8_block_91 : uD 1 cX8_block 91 (.ireturn) 92 := ⟨by decide +kernel, rfl⟩
theorem dX8_isPlace_0 : uD 1 cX8_isPlace 0 (.aload_n 0) 1 := ⟨by decide +kernel, rfl⟩
theorem dX8_isPlace_1 : uD 1 cX8_isPlace 1 (.iload_n 1) 2 := ⟨by decide +kernel, rfl⟩
theorem dX8_isPlace_2 : uD 3 cX8_isPlace 2 (.invokevirtual 178) 5 := ⟨by decide +kernel, rfl⟩
theorem dX8_isPlace_5 : uJ cX8_isPlace 5 (fun o => .ifCond .eq o) 22 8 := ⟨17, by decide +kernel, by decide, rfl⟩
theorem dX8_isPlace_8 : uD 1 cX8_isPlace 8 (.iload_n 2) 9 := ⟨by decide +kernel, rfl⟩
theorem dX8_isPlace_9 : uD 1 cX8_isPlace 9 (.iconst 0) 10 := ⟨by decide +kernel, rfl⟩
theorem dX8_isPlace_10 : uD 2 cX8_isPlace 10 (.bipush 99) 12 := ⟨by decide +kernel, rfl⟩
theorem dX8_isPlace_12 : uD 3 cX8_isPlace 12 (.invokestatic 59) 15 := ⟨by decide +kernel, rfl⟩
theorem dX8_isPlace_15 : uJ cX8_isPlace 15 (fun o => .ifCond .eq o) 22 18 := ⟨7, by decide +kernel, by decide, rfl⟩
theorem dX8_isPlace_18 : uD 1 cX8_isPlace 18 (.iconst 1) 19 := ⟨by decide +kernel, rfl⟩
theorem dX8_isPlace_19 : uJ cX8_isPlace 19 (fun o => .goto o) 23 22 := ⟨4, by decide +kernel, by decide, rfl⟩
theorem dX8_isPlace_22 : uD 1 cX8_isPlace 22 (.iconst 0) 23 := ⟨by decide +kernel, rfl⟩
theorem dX8_isPlace_23 : uD 1 cX8_isPlace 23 (.ireturn) 24 := ⟨by decide +kernel, rfl⟩
theorem dX8_find_0 : uD 1 cX8_find 0 (.aload_n 0) 1 := ⟨by decide +kernel, rfl⟩
theorem dX8_find_1 : uD 1 cX8_find 1 (.iconst 0) 2 := ⟨by decide +kernel, rfl⟩
theorem dX8_find_2 : uD 3 cX8_find 2 (.putfield 49) 5 := ⟨by decide +kernel, rfl⟩
theorem dX8_find_5 : uD 1 cX8_find 5 (.aload_n 0) 6 := ⟨by decide +kernel, rfl⟩
theorem dX8_find_6 : uD 1 cX8_find 6 (.aload_n 0) 7 := ⟨by decide +kernel, rfl⟩
theorem dX8_find_7 : uD 1 cX8_find 7 (.iload_n 1) 8 := ⟨by decide +kernel, rfl⟩
theorem dX8_find_8 : uD 1 cX8_find 8 (.iload_n 2) 9 := ⟨by decide +kernel, rfl⟩
theorem dX8_find_9 : uD 3 cX8_find 9 (.invokevirtual 193) 12 := ⟨by decide +kernel, rfl⟩
theorem dX8_find_12 : uD 1 cX8_find 12 (.iconst 1) 13 := ⟨by decide +kernel, rfl⟩
theorem dX8_find_13 : uD 3 cX8_find 13 (.invokevirtual 55) 16 := ⟨by decide +kernel, rfl⟩
theorem dX8_find_16 : uJ cX8_find 16 (fun o => .ifCond .ne o) 21 19 := ⟨5, by decide +kernel, by decide, rfl⟩
theorem dX8_find_19 : uD 1 cX8_find 19 (.iconst 0) 20 := ⟨by decide +kernel, rfl⟩
theorem dX8_find_20 : uD 1 cX8_find 20 (.ireturn) 21 := ⟨by decide +kernel, rfl⟩
theorem dX8_find_21 : uD 1 cX8_find 21 (.aload_n 0) 22 := ⟨by decide +kernel, rfl⟩
theorem dX8_find_22 : uD 1 cX8_find 22 (.iload_n 1) 23 := ⟨by decide +kernel, rfl⟩
theorem dX8_find_23 : uD 1 cX8_find 23 (.iload_n 2) 24 := ⟨by decide +kernel, rfl⟩
theorem dX8_find_24 : uD 3 cX8_find 24 (.invokevirtual 196) 27 := ⟨by decide +kernel, rfl⟩
theorem dX8_find_27 : uD 1 cX8_find 27 (.istore_n 3) 28 := ⟨by decide +kernel, rfl⟩
theorem dX8_find_28 : uD 1 cX8_find 28 (.aload_n 0) 29 := ⟨by decide +kernel, rfl⟩
theorem dX8_find_29 : uD 1 cX8_find 29 (.iload_n 3) 30 := ⟨by decide +kernel, rfl⟩
theorem dX8_find_30 : uD 1 cX8_find 30 (.iconst (-1)) 31 := ⟨by decide +kernel, rfl⟩
theorem dX8_find_31 : uJ cX8_find 31 (fun o => .if_icmp .eq o) 38 34 := ⟨7, by decide +kernel, by decide, rfl⟩
theorem dX8_find_34 : uD 1 cX8_find 34 (.iconst 1) 35 := ⟨by decide +kernel, rfl⟩
theorem dX8_find_35 : uJ cX8_find 35 (fun o => .goto o) 39 38 := ⟨4, by decide +kernel, by decide, rfl⟩
theorem dX8_find_38 : uD 1 cX8_find 38 (.iconst 0) 39 := ⟨by decide +kernel, rfl⟩
theorem dX8_find_39 : uD 1 cX8_find 39 (.iconst 2) 40 := ⟨by decide +kernel, rfl⟩
theorem dX8_find_40 : uD 3 cX8_find 40 (.invokevirtual 55) 43 := ⟨by decide +kernel, rfl⟩
theorem dX8_find_43 : uJ cX8_find 43 (fun o => .ifCond .eq o) 50 46 := ⟨7, by decide +kernel, by decide, rfl⟩
theorem dX8_find_46 : uD 1 cX8_find 46 (.iload_n 3) 47 := ⟨by decide +kernel, rfl⟩
theorem dX8_find_47 : uJ cX8_find 47 (fun o => .goto o) 51 50 := ⟨4, by decide +kernel, by decide, rfl⟩
theorem dX8_find_50 : uD 1 cX8_find 50 (.iconst 0) 51 := ⟨by decide +kernel, rfl⟩
theorem dX8_find_51 : uD 1 cX8_find 51 (.ireturn) 52 := ⟨by decide +kernel, rfl⟩
theorem dX8_oldest_0 : uD 1 cX8_oldest 0 (.aload_n 0) 1 := ⟨by decide +kernel, rfl⟩
theorem dX8_oldest_1 : uD 1 cX8_oldest 1 (.iconst 0) 2 := ⟨by decide +kernel, rfl⟩
theorem dX8_oldest_2 : uD 3 cX8_oldest 2 (.putfield 49) 5 := ⟨by decide +kernel, rfl⟩
theorem dX8_oldest_5 : uD 1 cX8_oldest 5 (.aload_n 0) 6 := ⟨by decide +kernel, rfl⟩
theorem dX8_oldest_6 : uD 1 cX8_oldest 6 (.aload_n 0) 7 := ⟨by decide +kernel, rfl⟩
theorem dX8_oldest_7 : uD 3 cX8_oldest 7 (.getfield 7) 10 := ⟨by decide +kernel, rfl⟩
theorem dX8_oldest_10 : uD 2 cX8_oldest 10 (.bipush 36) 12 := ⟨by decide +kernel, rfl⟩
theorem dX8_oldest_12 : uD 1 cX8_oldest 12 (.iaload) 13 := ⟨by decide +kernel, rfl⟩
theorem dX8_oldest_13 : uJ cX8_oldest 13 (fun o => .ifCond .le o) 20 16 := ⟨7, by decide +kernel, by decide, rfl⟩
theorem dX8_oldest_16 : uD 1 cX8_oldest 16 (.iconst 1) 17 := ⟨by decide +kernel, rfl⟩
theorem dX8_oldest_17 : uJ cX8_oldest 17 (fun o => .goto o) 21 20 := ⟨4, by decide +kernel, by decide, rfl⟩
theorem dX8_oldest_20 : uD 1 cX8_oldest 20 (.iconst 0) 21 := ⟨by decide +kernel, rfl⟩
theorem dX8_oldest_21 : uD 1 cX8_oldest 21 (.iconst 1) 22 := ⟨by decide +kernel, rfl⟩
theorem dX8_oldest_22 : uD 3 cX8_oldest 22 (.invokevirtual 55) 25 := ⟨by decide +kernel, rfl⟩
theorem dX8_oldest_25 : uJ cX8_oldest 25 (fun o => .ifCond .ne o) 30 28 := ⟨5, by decide +kernel, by decide, rfl⟩
theorem dX8_oldest_28 : uD 1 cX8_oldest 28 (.iconst 0) 29 := ⟨by decide +kernel, rfl⟩
theorem dX8_oldest_29 : uD 1 cX8_oldest 29 (.ireturn) 30 := ⟨by decide +kernel, rfl⟩
theorem dX8_oldest_30 : uD 1 cX8_oldest 30 (.iconst 0) 31 := ⟨by decide +kernel, rfl⟩
theorem dX8_oldest_31 : uD 1 cX8_oldest 31 (.istore_n 1) 32 := ⟨by decide +kernel, rfl⟩
theorem dX8_oldest_32 : uD 1 cX8_oldest 32 (.iconst 1) 33 := ⟨by decide +kernel, rfl⟩
theorem dX8_oldest_33 : uD 1 cX8_oldest 33 (.istore_n 2) 34 := ⟨by decide +kernel, rfl⟩
theorem dX8_oldest_34 : uD 1 cX8_oldest 34 (.iload_n 2) 35 := ⟨by decide +kernel, rfl⟩
theorem dX8_oldest_35 : uD 1 cX8_oldest 35 (.aload_n 0) 36 := ⟨by decide +kernel, rfl⟩
theorem dX8_oldest_36 : uD 3 cX8_oldest 36 (.getfield 7) 39 := ⟨by decide +kernel, rfl⟩
theorem dX8_oldest_39 : uD 2 cX8_oldest 39 (.bipush 36) 41 := ⟨by decide +kernel, rfl⟩
theorem dX8_oldest_41 : uD 1 cX8_oldest 41 (.iaload) 42 := ⟨by decide +kernel, rfl⟩
theorem dX8_oldest_42 : uJ cX8_oldest 42 (fun o => .if_icmp .ge o) 72 45 := ⟨30, by decide +kernel, by decide, rfl⟩
theorem dX8_oldest_45 : uD 1 cX8_oldest 45 (.aload_n 0) 46 := ⟨by decide +kernel, rfl⟩
theorem dX8_oldest_46 : uD 1 cX8_oldest 46 (.iload_n 2) 47 := ⟨by decide +kernel, rfl⟩
theorem dX8_oldest_47 : uD 1 cX8_oldest 47 (.iconst 2) 48 := ⟨by decide +kernel, rfl⟩
theorem dX8_oldest_48 : uD 3 cX8_oldest 48 (.invokevirtual 160) 51 := ⟨by decide +kernel, rfl⟩
theorem dX8_oldest_51 : uD 1 cX8_oldest 51 (.aload_n 0) 52 := ⟨by decide +kernel, rfl⟩
theorem dX8_oldest_52 : uD 1 cX8_oldest 52 (.iload_n 1) 53 := ⟨by decide +kernel, rfl⟩
theorem dX8_oldest_53 : uD 1 cX8_oldest 53 (.iconst 2) 54 := ⟨by decide +kernel, rfl⟩
theorem dX8_oldest_54 : uD 3 cX8_oldest 54 (.invokevirtual 160) 57 := ⟨by decide +kernel, rfl⟩
theorem dX8_oldest_57 : uJ cX8_oldest 57 (fun o => .if_icmp .ge o) 64 60 := ⟨7, by decide +kernel, by decide, rfl⟩
theorem dX8_oldest_60 : uD 1 cX8_oldest 60 (.iload_n 2) 61 := ⟨by decide +kernel, rfl⟩
theorem dX8_oldest_61 : uJ cX8_oldest 61 (fun o => .goto o) 65 64 := ⟨4, by decide +kernel, by decide, rfl⟩
theorem dX8_oldest_64 : uD 1 cX8_oldest 64 (.iload_n 1) 65 := ⟨by decide +kernel, rfl⟩
theorem dX8_oldest_65 : uD 1 cX8_oldest 65 (.istore_n 1) 66 := ⟨by decide +kernel, rfl⟩
theorem dX8_oldest_66 : uD 3 cX8_oldest 66 (.iinc 2 1) 69 := ⟨by decide +kernel, rfl⟩
theorem dX8_oldest_69 : uJ cX8_oldest 69 (fun o => .goto o) 34 72 := ⟨(-35), by decide +kernel, by decide, rfl⟩
theorem dX8_oldest_72 : uD 1 cX8_oldest 72 (.iload_n 1) 73 := ⟨by decide +kernel, rfl⟩
theorem dX8_oldest_73 : uD 1 cX8_oldest 73 (.ireturn) 74 := ⟨by decide +kernel, rfl⟩
theorem dX8_total_0 : uD 1 cX8_total 0 (.aload_n 0) 1 := ⟨by decide +kernel, rfl⟩
theorem dX8_total_1 : uD 1 cX8_total 1 (.iconst 0) 2 := ⟨by decide +kernel, rfl⟩
theorem dX8_total_2 : uD 3 cX8_total 2 (.putfield 49) 5 := ⟨by decide +kernel, rfl⟩
theorem dX8_total_5 : uD 1 cX8_total 5 (.aload_n 0) 6 := ⟨by decide +kernel, rfl⟩
theorem dX8_total_6 : uD 1 cX8_total 6 (.iload_n 1) 7 := ⟨by decide +kernel, rfl⟩
theorem dX8_total_7 : uD 1 cX8_total 7 (.iconst 0) 8 := ⟨by decide +kernel, rfl⟩
theorem dX8_total_8 : uD 2 cX8_total 8 (.bipush 6) 10 := ⟨by decide +kernel, rfl⟩
theorem dX8_total_10 : uD 3 cX8_total 10 (.invokestatic 59) 13 := ⟨by decide +kernel, rfl⟩
theorem dX8_total_13 : uD 1 cX8_total 13 (.iconst 1) 14 := ⟨by decide +kernel, rfl⟩
theorem dX8_total_14 : uD 3 cX8_total 14 (.invokevirtual 55) 17 := ⟨by decide +kernel, rfl⟩
theorem dX8_total_17 : uJ cX8_total 17 (fun o => .ifCond .eq o) 32 20 := ⟨15, by decide +kernel, by decide, rfl⟩
theorem dX8_total_20 : uD 1 cX8_total 20 (.aload_n 0) 21 := ⟨by decide +kernel, rfl⟩
theorem dX8_total_21 : uD 3 cX8_total 21 (.getfield 7) 24 := ⟨by decide +kernel, rfl⟩
theorem dX8_total_24 : uD 2 cX8_total 24 (.bipush 29) 26 := ⟨by decide +kernel, rfl⟩
theorem dX8_total_26 : uD 1 cX8_total 26 (.iload_n 1) 27 := ⟨by decide +kernel, rfl⟩
theorem dX8_total_27 : uD 1 cX8_total 27 (.iadd) 28 := ⟨by decide +kernel, rfl⟩
theorem dX8_total_28 : uD 1 cX8_total 28 (.iaload) 29 := ⟨by decide +kernel, rfl⟩
theorem dX8_total_29 : uJ cX8_total 29 (fun o => .goto o) 33 32 := ⟨4, by decide +kernel, by decide, rfl⟩
theorem dX8_total_32 : uD 1 cX8_total 32 (.iconst 0) 33 := ⟨by decide +kernel, rfl⟩
theorem dX8_total_33 : uD 1 cX8_total 33 (.ireturn) 34 := ⟨by decide +kernel, rfl⟩
theorem dX8_isGuarded_0 : uD 1 cX8_isGuarded 0 (.iconst 0) 1 := ⟨by decide +kernel, rfl⟩
theorem dX8_isGuarded_1 : uD 1 cX8_isGuarded 1 (.istore_n 1) 2 := ⟨by decide +kernel, rfl⟩
theorem dX8_isGuarded_2 : uD 1 cX8_isGuarded 2 (.iconst 0) 3 := ⟨by decide +kernel, rfl⟩
theorem dX8_isGuarded_3 : uD 1 cX8_isGuarded 3 (.istore_n 2) 4 := ⟨by decide +kernel, rfl⟩
theorem dX8_isGuarded_4 : uD 1 cX8_isGuarded 4 (.iload_n 2) 5 := ⟨by decide +kernel, rfl⟩
theorem dX8_isGuarded_5 : uD 1 cX8_isGuarded 5 (.aload_n 0) 6 := ⟨by decide +kernel, rfl⟩
theorem dX8_isGuarded_6 : uD 3 cX8_isGuarded 6 (.getfield 7) 9 := ⟨by decide +kernel, rfl⟩
theorem dX8_isGuarded_9 : uD 2 cX8_isGuarded 9 (.bipush 36) 11 := ⟨by decide +kernel, rfl⟩
theorem dX8_isGuarded_11 : uD 1 cX8_isGuarded 11 (.iaload) 12 := ⟨by decide +kernel, rfl⟩
theorem dX8_isGuarded_12 : uJ cX8_isGuarded 12 (fun o => .if_icmp .ge o) 80 15 := ⟨68, by decide +kernel, by decide, rfl⟩
theorem dX8_isGuarded_15 : uD 1 cX8_isGuarded 15 (.aload_n 0) 16 := ⟨by decide +kernel, rfl⟩
theorem dX8_isGuarded_16 : uD 1 cX8_isGuarded 16 (.aload_n 0) 17 := ⟨by decide +kernel, rfl⟩
theorem dX8_isGuarded_17 : uD 1 cX8_isGuarded 17 (.iload_n 2) 18 := ⟨by decide +kernel, rfl⟩
theorem dX8_isGuarded_18 : uD 3 cX8_isGuarded 18 (.invokevirtual 166) 21 := ⟨by decide +kernel, rfl⟩
theorem dX8_isGuarded_21 : uD 3 cX8_isGuarded 21 (.invokevirtual 169) 24 := ⟨by decide +kernel, rfl⟩
theorem dX8_isGuarded_24 : uJ cX8_isGuarded 24 (fun o => .ifCond .ne o) 58 27 := ⟨34, by decide +kernel, by decide, rfl⟩
theorem dX8_isGuarded_27 : uD 1 cX8_isGuarded 27 (.aload_n 0) 28 := ⟨by decide +kernel, rfl⟩
theorem dX8_isGuarded_28 : uD 3 cX8_isGuarded 28 (.getfield 7) 31 := ⟨by decide +kernel, rfl⟩
theorem dX8_isGuarded_31 : uD 2 cX8_isGuarded 31 (.bipush 7) 33 := ⟨by decide +kernel, rfl⟩
theorem dX8_isGuarded_33 : uD 1 cX8_isGuarded 33 (.iaload) 34 := ⟨by decide +kernel, rfl⟩
theorem dX8_isGuarded_34 : uD 1 cX8_isGuarded 34 (.iconst 1) 35 := ⟨by decide +kernel, rfl⟩
theorem dX8_isGuarded_35 : uJ cX8_isGuarded 35 (fun o => .if_icmp .ne o) 54 38 := ⟨19, by decide +kernel, by decide, rfl⟩
theorem dX8_isGuarded_38 : uD 1 cX8_isGuarded 38 (.aload_n 0) 39 := ⟨by decide +kernel, rfl⟩
theorem dX8_isGuarded_39 : uD 1 cX8_isGuarded 39 (.iload_n 2) 40 := ⟨by decide +kernel, rfl⟩
theorem dX8_isGuarded_40 : uD 1 cX8_isGuarded 40 (.iconst 1) 41 := ⟨by decide +kernel, rfl⟩
theorem dX8_isGuarded_41 : uD 3 cX8_isGuarded 41 (.invokevirtual 160) 44 := ⟨by decide +kernel, rfl⟩
theorem dX8_isGuarded_44 : uD 1 cX8_isGuarded 44 (.aload_n 0) 45 := ⟨by decide +kernel, rfl⟩
theorem dX8_isGuarded_45 : uD 3 cX8_isGuarded 45 (.getfield 7) 48 := ⟨by decide +kernel, rfl⟩
theorem dX8_isGuarded_48 : uD 2 cX8_isGuarded 48 (.bipush 8) 50 := ⟨by decide +kernel, rfl⟩
theorem dX8_isGuarded_50 : uD 1 cX8_isGuarded 50 (.iaload) 51 := ⟨by decide +kernel, rfl⟩
theorem dX8_isGuarded_51 : uJ cX8_isGuarded 51 (fun o => .if_icmp .lt o) 58 54 := ⟨7, by decide +kernel, by decide, rfl⟩
theorem dX8_isGuarded_54 : uD 1 cX8_isGuarded 54 (.iconst 1) 55 := ⟨by decide +kernel, rfl⟩
theorem dX8_isGuarded_55 : uJ cX8_isGuarded 55 (fun o => .goto o) 59 58 := ⟨4, by decide +kernel, by decide, rfl⟩
theorem dX8_isGuarded_58 : uD 1 cX8_isGuarded 58 (.iconst 0) 59 := ⟨by decide +kernel, rfl⟩
theorem dX8_isGuarded_59 : uD 1 cX8_isGuarded 59 (.istore_n 3) 60 := ⟨by decide +kernel, rfl⟩
theorem dX8_isGuarded_60 : uD 1 cX8_isGuarded 60 (.iload_n 1) 61 := ⟨by decide +kernel, rfl⟩
theorem dX8_isGuarded_61 : uD 1 cX8_isGuarded 61 (.iload_n 3) 62 := ⟨by decide +kernel, rfl⟩
theorem dX8_isGuarded_62 : uJ cX8_isGuarded 62 (fun o => .ifCond .eq o) 71 65 := ⟨9, by decide +kernel, by decide, rfl⟩
theorem dX8_isGuarded_65 : uD 1 cX8_isGuarded 65 (.iconst 1) 66 := ⟨by decide +kernel, rfl⟩
theorem dX8_isGuarded_66 : uD 1 cX8_isGuarded 66 (.iload_n 2) 67 := ⟨by decide +kernel, rfl⟩
theorem dX8_isGuarded_67 : uD 1 cX8_isGuarded 67 (.ishl) 68 := ⟨by decide +kernel, rfl⟩
theorem dX8_isGuarded_68 : uJ cX8_isGuarded 68 (fun o => .goto o) 72 71 := ⟨4, by decide +kernel, by decide, rfl⟩
theorem dX8_isGuarded_71 : uD 1 cX8_isGuarded 71 (.iconst 0) 72 := ⟨by decide +kernel, rfl⟩
theorem dX8_isGuarded_72 : uD 1 cX8_isGuarded 72 (.ior) 73 := ⟨by decide +kernel, rfl⟩
theorem dX8_isGuarded_73 : uD 1 cX8_isGuarded 73 (.istore_n 1) 74 := ⟨by decide +kernel, rfl⟩
theorem dX8_isGuarded_74 : uD 3 cX8_isGuarded 74 (.iinc 2 1) 77 := ⟨by decide +kernel, rfl⟩
theorem dX8_isGuarded_77 : uJ cX8_isGuarded 77 (fun o => .goto o) 4 80 := ⟨(-73), by decide +kernel, by decide, rfl⟩
theorem dX8_isGuarded_80 : uD 1 cX8_isGuarded 80 (.aload_n 0) 81 := ⟨by decide +kernel, rfl⟩
theorem dX8_isGuarded_81 : uD 1 cX8_isGuarded 81 (.iload_n 1) 82 := ⟨by decide +kernel, rfl⟩
theorem dX8_isGuarded_82 : uD 3 cX8_isGuarded 82 (.invokevirtual 175) 85 := ⟨by decide +kernel, rfl⟩
theorem dX8_isGuarded_85 : uD 1 cX8_isGuarded 85 (.aload_n 0) 86 := ⟨by decide +kernel, rfl⟩
theorem dX8_isGuarded_86 : uD 3 cX8_isGuarded 86 (.getfield 7) 89 := ⟨by decide +kernel, rfl⟩
theorem dX8_isGuarded_89 : uD 1 cX8_isGuarded 89 (.iconst 1) 90 := ⟨by decide +kernel, rfl⟩
theorem dX8_isGuarded_90 : uD 1 cX8_isGuarded 90 (.iaload) 91 := ⟨by decide +kernel, rfl⟩
theorem dX8_isGuarded_91 : uD 1 cX8_isGuarded 91 (.aload_n 0) 92 := ⟨by decide +kernel, rfl⟩
theorem dX8_isGuarded_92 : uD 3 cX8_isGuarded 92 (.getfield 7) 95 := ⟨by decide +kernel, rfl⟩
theorem dX8_isGuarded_95 : uD 1 cX8_isGuarded 95 (.iconst 5) 96 := ⟨by decide +kernel, rfl⟩
theorem dX8_isGuarded_96 : uD 1 cX8_isGuarded 96 (.iaload) 97 := ⟨by decide +kernel, rfl⟩
theorem dX8_isGuarded_97 : uD 1 cX8_isGuarded 97 (.isub) 98 := ⟨by decide +kernel, rfl⟩
theorem dX8_isGuarded_98 : uJ cX8_isGuarded 98 (fun o => .if_icmp .gt o) 105 101 := ⟨7, by decide +kernel, by decide, rfl⟩
theorem dX8_isGuarded_101 : uD 1 cX8_isGuarded 101 (.iconst 1) 102 := ⟨by decide +kernel, rfl⟩
theorem dX8_isGuarded_102 : uJ cX8_isGuarded 102 (fun o => .goto o) 106 105 := ⟨4, by decide +kernel, by decide, rfl⟩
theorem dX8_isGuarded_105 : uD 1 cX8_isGuarded 105 (.iconst 0) 106 := ⟨by decide +kernel, rfl⟩
theorem dX8_isGuarded_106 : uD 1 cX8_isGuarded 106 (.ireturn) 107 := ⟨by decide +kernel, rfl⟩
theorem dX8_lays_0 : uD 1 cX8_lays 0 (.aload_n 0) 1 := ⟨by decide +kernel, rfl⟩
theorem dX8_lays_1 : uD 1 cX8_lays 1 (.iload_n 1) 2 := ⟨by decide +kernel, rfl⟩
theorem dX8_lays_2 : uD 1 cX8_lays 2 (.iload_n 2) 3 := ⟨by decide +kernel, rfl⟩
theorem dX8_lays_3 : uD 3 cX8_lays 3 (.invokevirtual 196) 6 := ⟨by decide +kernel, rfl⟩
theorem dX8_lays_6 : uD 2 cX8_lays 6 (.istore 4) 8 := ⟨by decide +kernel, rfl⟩
theorem dX8_lays_8 : uD 1 cX8_lays 8 (.aload_n 0) 9 := ⟨by decide +kernel, rfl⟩
theorem dX8_lays_9 : uD 3 cX8_lays 9 (.getfield 7) 12 := ⟨by decide +kernel, rfl⟩
theorem dX8_lays_12 : uD 2 cX8_lays 12 (.bipush 7) 14 := ⟨by decide +kernel, rfl⟩
theorem dX8_lays_14 : uD 1 cX8_lays 14 (.iaload) 15 := ⟨by decide +kernel, rfl⟩
theorem dX8_lays_15 : uD 1 cX8_lays 15 (.iconst 2) 16 := ⟨by decide +kernel, rfl⟩
theorem dX8_lays_16 : uJ cX8_lays 16 (fun o => .if_icmp .eq o) 42 19 := ⟨26, by decide +kernel, by decide, rfl⟩
theorem dX8_lays_19 : uD 2 cX8_lays 19 (.iload 4) 21 := ⟨by decide +kernel, rfl⟩
theorem dX8_lays_21 : uD 1 cX8_lays 21 (.iconst (-1)) 22 := ⟨by decide +kernel, rfl⟩
theorem dX8_lays_22 : uJ cX8_lays 22 (fun o => .if_icmp .ne o) 44 25 := ⟨22, by decide +kernel, by decide, rfl⟩
theorem dX8_lays_25 : uD 1 cX8_lays 25 (.aload_n 0) 26 := ⟨by decide +kernel, rfl⟩
theorem dX8_lays_26 : uD 3 cX8_lays 26 (.getfield 7) 29 := ⟨by decide +kernel, rfl⟩
theorem dX8_lays_29 : uD 2 cX8_lays 29 (.bipush 36) 31 := ⟨by decide +kernel, rfl⟩
theorem dX8_lays_31 : uD 1 cX8_lays 31 (.iaload) 32 := ⟨by decide +kernel, rfl⟩
theorem dX8_lays_32 : uD 1 cX8_lays 32 (.aload_n 0) 33 := ⟨by decide +kernel, rfl⟩
theorem dX8_lays_33 : uD 3 cX8_lays 33 (.getfield 7) 36 := ⟨by decide +kernel, rfl⟩
theorem dX8_lays_36 : uD 2 cX8_lays 36 (.bipush 6) 38 := ⟨by decide +kernel, rfl⟩
theorem dX8_lays_38 : uD 1 cX8_lays 38 (.iaload) 39 := ⟨by decide +kernel, rfl⟩
theorem dX8_lays_39 : uJ cX8_lays 39 (fun o => .if_icmp .lt o) 44 42 := ⟨5, by decide +kernel, by decide, rfl⟩
theorem dX8_lays_42 : uD 1 cX8_lays 42 (.iconst 0) 43 := ⟨by decide +kernel, rfl⟩
theorem dX8_lays_43 : uD 1 cX8_lays 43 (.ireturn) 44 := ⟨by decide +kernel, rfl⟩
theorem dX8_lays_44 : uD 2 cX8_lays 44 (.iload 4) 46 := ⟨by decide +kernel, rfl⟩
theorem dX8_lays_46 : uD 1 cX8_lays 46 (.iconst (-1)) 47 := ⟨by decide +kernel, rfl⟩
theorem dX8_lays_47 : uJ cX8_lays 47 (fun o => .if_icmp .ne o) 54 50 := ⟨7, by decide +kernel, by decide, rfl⟩
theorem dX8_lays_50 : uD 1 cX8_lays 50 (.iconst 0) 51 := ⟨by decide +kernel, rfl⟩
theorem dX8_lays_51 : uJ cX8_lays 51 (fun o => .goto o) 61 54 := ⟨10, by decide +kernel, by decide, rfl⟩
theorem dX8_lays_54 : uD 1 cX8_lays 54 (.aload_n 0) 55 := ⟨by decide +kernel, rfl⟩
theorem dX8_lays_55 : uD 2 cX8_lays 55 (.iload 4) 57 := ⟨by decide +kernel, rfl⟩
theorem dX8_lays_57 : uD 1 cX8_lays 57 (.iconst 1) 58 := ⟨by decide +kernel, rfl⟩
theorem dX8_lays_58 : uD 3 cX8_lays 58 (.invokevirtual 160) 61 := ⟨by decide +kernel, rfl⟩
theorem dX8_lays_61 : uD 2 cX8_lays 61 (.istore 5) 63 := ⟨by decide +kernel, rfl⟩
theorem dX8_lays_63 : uD 2 cX8_lays 63 (.iload 4) 65 := ⟨by decide +kernel, rfl⟩
theorem dX8_lays_65 : uD 1 cX8_lays 65 (.iconst (-1)) 66 := ⟨by decide +kernel, rfl⟩
theorem dX8_lays_66 : uJ cX8_lays 66 (fun o => .if_icmp .ne o) 79 69 := ⟨13, by decide +kernel, by decide, rfl⟩
theorem dX8_lays_69 : uD 1 cX8_lays 69 (.aload_n 0) 70 := ⟨by decide +kernel, rfl⟩
theorem dX8_lays_70 : uD 1 cX8_lays 70 (.iload_n 1) 71 := ⟨by decide +kernel, rfl⟩
theorem dX8_lays_71 : uD 1 cX8_lays 71 (.iload_n 2) 72 := ⟨by decide +kernel, rfl⟩
theorem dX8_lays_72 : uD 1 cX8_lays 72 (.iload_n 3) 73 := ⟨by decide +kernel, rfl⟩
theorem dX8_lays_73 : uD 3 cX8_lays 73 (.invokevirtual 199) 76 := ⟨by decide +kernel, rfl⟩
theorem dX8_lays_76 : uJ cX8_lays 76 (fun o => .goto o) 94 79 := ⟨18, by decide +kernel, by decide, rfl⟩
theorem dX8_lays_79 : uD 1 cX8_lays 79 (.aload_n 0) 80 := ⟨by decide +kernel, rfl⟩
theorem dX8_lays_80 : uD 3 cX8_lays 80 (.getfield 7) 83 := ⟨by decide +kernel, rfl⟩
theorem dX8_lays_83 : uD 2 cX8_lays 83 (.bipush 37) 85 := ⟨by decide +kernel, rfl⟩
theorem dX8_lays_85 : uD 1 cX8_lays 85 (.iconst 3) 86 := ⟨by decide +kernel, rfl⟩
theorem dX8_lays_86 : uD 2 cX8_lays 86 (.iload 4) 88 := ⟨by decide +kernel, rfl⟩
theorem dX8_lays_88 : uD 1 cX8_lays 88 (.imul) 89 := ⟨by decide +kernel, rfl⟩
theorem dX8_lays_89 : uD 1 cX8_lays 89 (.iadd) 90 := ⟨by decide +kernel, rfl⟩
theorem dX8_lays_90 : uD 1 cX8_lays 90 (.iconst 1) 91 := ⟨by decide +kernel, rfl⟩
theorem dX8_lays_91 : uD 1 cX8_lays 91 (.iadd) 92 := ⟨by decide +kernel, rfl⟩
theorem dX8_lays_92 : uD 1 cX8_lays 92 (.iload_n 3) 93 := ⟨by decide +kernel, rfl⟩
theorem dX8_lays_93 : uD 1 cX8_lays 93 (.iastore) 94 := ⟨by decide +kernel, rfl⟩
theorem dX8_lays_94 : uD 1 cX8_lays 94 (.aload_n 0) 95 := ⟨by decide +kernel, rfl⟩
theorem dX8_lays_95 : uD 3 cX8_lays 95 (.invokevirtual 203) 98 := ⟨by decide +kernel, rfl⟩
theorem dX8_lays_98 : uJ cX8_lays 98 (fun o => .ifCond .eq o) 103 101 := ⟨5, by decide +kernel, by decide, rfl⟩
theorem dX8_lays_101 : uD 1 cX8_lays 101 (.iconst 1) 102 := ⟨by decide +kernel, rfl⟩
theorem dX8_lays_102 : uD 1 cX8_lays 102 (.ireturn) 103 := ⟨by decide +kernel, rfl⟩
theorem dX8_lays_103 : uD 2 cX8_lays 103 (.iload 4) 105 := ⟨by decide +kernel, rfl⟩
theorem dX8_lays_105 : uD 1 cX8_lays 105 (.iconst (-1)) 106 := ⟨by decide +kernel, rfl⟩
theorem dX8_lays_106 : uJ cX8_lays 106 (fun o => .if_icmp .ne o) 122 109 := ⟨16, by decide +kernel, by decide, rfl⟩
theorem dX8_lays_109 : uD 1 cX8_lays 109 (.aload_n 0) 110 := ⟨by decide +kernel, rfl⟩
theorem dX8_lays_110 : uD 1 cX8_lays 110 (.aload_n 0) 111 := ⟨by decide +kernel, rfl⟩
theorem dX8_lays_111 : uD 1 cX8_lays 111 (.iload_n 1) 112 := ⟨by decide +kernel, rfl⟩
theorem dX8_lays_112 : uD 1 cX8_lays 112 (.iload_n 2) 113 := ⟨by decide +kernel, rfl⟩
theorem dX8_lays_113 : uD 3 cX8_lays 113 (.invokevirtual 196) 116 := ⟨by decide +kernel, rfl⟩
theorem dX8_lays_116 : uD 3 cX8_lays 116 (.invokevirtual 163) 119 := ⟨by decide +kernel, rfl⟩
theorem dX8_lays_119 : uJ cX8_lays 119 (fun o => .goto o) 138 122 := ⟨19, by decide +kernel, by decide, rfl⟩
theorem dX8_lays_122 : uD 1 cX8_lays 122 (.aload_n 0) 123 := ⟨by decide +kernel, rfl⟩
theorem dX8_lays_123 : uD 3 cX8_lays 123 (.getfield 7) 126 := ⟨by decide +kernel, rfl⟩
theorem dX8_lays_126 : uD 2 cX8_lays 126 (.bipush 37) 128 := ⟨by decide +kernel, rfl⟩
theorem dX8_lays_128 : uD 1 cX8_lays 128 (.iconst 3) 129 := ⟨by decide +kernel, rfl⟩
theorem dX8_lays_129 : uD 2 cX8_lays 129 (.iload 4) 131 := ⟨by decide +kernel, rfl⟩
theorem dX8_lays_131 : uD 1 cX8_lays 131 (.imul) 132 := ⟨by decide +kernel, rfl⟩
theorem dX8_lays_132 : uD 1 cX8_lays 132 (.iadd) 133 := ⟨by decide +kernel, rfl⟩
theorem dX8_lays_133 : uD 1 cX8_lays 133 (.iconst 1) 134 := ⟨by decide +kernel, rfl⟩
theorem dX8_lays_134 : uD 1 cX8_lays 134 (.iadd) 135 := ⟨by decide +kernel, rfl⟩
theorem dX8_lays_135 : uD 2 cX8_lays 135 (.iload 5) 137 := ⟨by decide +kernel, rfl⟩
theorem dX8_lays_137 : uD 1 cX8_lays 137 (.iastore) 138 := ⟨by decide +kernel, rfl⟩
theorem dX8_lays_138 : uD 1 cX8_lays 138 (.iconst 0) 139 := ⟨by decide +kernel, rfl⟩
theorem dX8_lays_139 : uD 1 cX8_lays 139 (.ireturn) 140 := ⟨by decide +kernel, rfl⟩
theorem dX8_mayWrite_0 : uD 1 cX8_mayWrite 0 (.aload_n 0) 1 := ⟨by decide +kernel, rfl⟩
theorem dX8_mayWrite_1 : uD 1 cX8_mayWrite 1 (.aload_n 0) 2 := ⟨by decide +kernel, rfl⟩
theorem dX8_mayWrite_2 : uD 1 cX8_mayWrite 2 (.iload_n 1) 3 := ⟨by decide +kernel, rfl⟩
theorem dX8_mayWrite_3 : uD 1 cX8_mayWrite 3 (.iload_n 2) 4 := ⟨by decide +kernel, rfl⟩
theorem dX8_mayWrite_4 : uD 3 cX8_mayWrite 4 (.invokevirtual 193) 7 := ⟨by decide +kernel, rfl⟩
theorem dX8_mayWrite_7 : uD 1 cX8_mayWrite 7 (.iconst 1) 8 := ⟨by decide +kernel, rfl⟩
theorem dX8_mayWrite_8 : uD 3 cX8_mayWrite 8 (.invokevirtual 55) 11 := ⟨by decide +kernel, rfl⟩
theorem dX8_mayWrite_11 : uJ cX8_mayWrite 11 (fun o => .ifCond .eq o) 65 14 := ⟨54, by decide +kernel, by decide, rfl⟩
theorem dX8_mayWrite_14 : uD 1 cX8_mayWrite 14 (.aload_n 0) 15 := ⟨by decide +kernel, rfl⟩
theorem dX8_mayWrite_15 : uD 1 cX8_mayWrite 15 (.iload_n 3) 16 := ⟨by decide +kernel, rfl⟩
theorem dX8_mayWrite_16 : uD 1 cX8_mayWrite 16 (.iconst 1) 17 := ⟨by decide +kernel, rfl⟩
theorem dX8_mayWrite_17 : uD 2 cX8_mayWrite 17 (.bipush 99) 19 := ⟨by decide +kernel, rfl⟩
theorem dX8_mayWrite_19 : uD 3 cX8_mayWrite 19 (.invokestatic 59) 22 := ⟨by decide +kernel, rfl⟩
theorem dX8_mayWrite_22 : uD 1 cX8_mayWrite 22 (.iconst 2) 23 := ⟨by decide +kernel, rfl⟩
theorem dX8_mayWrite_23 : uD 3 cX8_mayWrite 23 (.invokevirtual 55) 26 := ⟨by decide +kernel, rfl⟩
theorem dX8_mayWrite_26 : uJ cX8_mayWrite 26 (fun o => .ifCond .eq o) 65 29 := ⟨39, by decide +kernel, by decide, rfl⟩
theorem dX8_mayWrite_29 : uD 1 cX8_mayWrite 29 (.aload_n 0) 30 := ⟨by decide +kernel, rfl⟩
theorem dX8_mayWrite_30 : uD 1 cX8_mayWrite 30 (.aload_n 0) 31 := ⟨by decide +kernel, rfl⟩
theorem dX8_mayWrite_31 : uD 3 cX8_mayWrite 31 (.getfield 7) 34 := ⟨by decide +kernel, rfl⟩
theorem dX8_mayWrite_34 : uD 2 cX8_mayWrite 34 (.bipush 27) 36 := ⟨by decide +kernel, rfl⟩
theorem dX8_mayWrite_36 : uD 1 cX8_mayWrite 36 (.iaload) 37 := ⟨by decide +kernel, rfl⟩
theorem dX8_mayWrite_37 : uD 1 cX8_mayWrite 37 (.iconst 1) 38 := ⟨by decide +kernel, rfl⟩
theorem dX8_mayWrite_38 : uJ cX8_mayWrite 38 (fun o => .if_icmp .ne o) 53 41 := ⟨15, by decide +kernel, by decide, rfl⟩
theorem dX8_mayWrite_41 : uD 1 cX8_mayWrite 41 (.aload_n 0) 42 := ⟨by decide +kernel, rfl⟩
theorem dX8_mayWrite_42 : uD 1 cX8_mayWrite 42 (.iload_n 1) 43 := ⟨by decide +kernel, rfl⟩
theorem dX8_mayWrite_43 : uD 3 cX8_mayWrite 43 (.invokevirtual 169) 46 := ⟨by decide +kernel, rfl⟩
theorem dX8_mayWrite_46 : uJ cX8_mayWrite 46 (fun o => .ifCond .ne o) 53 49 := ⟨7, by decide +kernel, by decide, rfl⟩
theorem dX8_mayWrite_49 : uD 1 cX8_mayWrite 49 (.iconst 1) 50 := ⟨by decide +kernel, rfl⟩
theorem dX8_mayWrite_50 : uJ cX8_mayWrite 50 (fun o => .goto o) 54 53 := ⟨4, by decide +kernel, by decide, rfl⟩
theorem dX8_mayWrite_53 : uD 1 cX8_mayWrite 53 (.iconst 0) 54 := ⟨by decide +kernel, rfl⟩
theorem dX8_mayWrite_54 : uD 1 cX8_mayWrite 54 (.iconst 3) 55 := ⟨by decide +kernel, rfl⟩
theorem dX8_mayWrite_55 : uD 3 cX8_mayWrite 55 (.invokevirtual 55) 58 := ⟨by decide +kernel, rfl⟩
theorem dX8_mayWrite_58 : uJ cX8_mayWrite 58 (fun o => .ifCond .eq o) 65 61 := ⟨7, by decide +kernel, by decide, rfl⟩
theorem dX8_mayWrite_61 : uD 1 cX8_mayWrite 61 (.iconst 1) 62 := ⟨by decide +kernel, rfl⟩
theorem dX8_mayWrite_62 : uJ cX8_mayWrite 62 (fun o => .goto o) 66 65 := ⟨4, by decide +kernel, by decide, rfl⟩
theorem dX8_mayWrite_65 : uD 1 cX8_mayWrite 65 (.iconst 0) 66 := ⟨by decide +kernel, rfl⟩
theorem dX8_mayWrite_66 : uD 1 cX8_mayWrite 66 (.ireturn) 67 := ⟨by decide +kernel, rfl⟩
theorem dX8_write_0 : uD 1 cX8_write 0 (.aload_n 0) 1 := ⟨by decide +kernel, rfl⟩
theorem dX8_write_1 : uD 1 cX8_write 1 (.iconst 0) 2 := ⟨by decide +kernel, rfl⟩
theorem dX8_write_2 : uD 3 cX8_write 2 (.putfield 49) 5 := ⟨by decide +kernel, rfl⟩
theorem dX8_write_5 : uD 1 cX8_write 5 (.aload_n 0) 6 := ⟨by decide +kernel, rfl⟩
theorem dX8_write_6 : uD 1 cX8_write 6 (.iload_n 1) 7 := ⟨by decide +kernel, rfl⟩
theorem dX8_write_7 : uD 1 cX8_write 7 (.iload_n 2) 8 := ⟨by decide +kernel, rfl⟩
theorem dX8_write_8 : uD 1 cX8_write 8 (.iload_n 3) 9 := ⟨by decide +kernel, rfl⟩
theorem dX8_write_9 : uD 3 cX8_write 9 (.invokevirtual 206) 12 := ⟨by decide +kernel, rfl⟩
theorem dX8_write_12 : uJ cX8_write 12 (fun o => .ifCond .ne o) 17 15 := ⟨5, by decide +kernel, by decide, rfl⟩
theorem dX8_write_15 : uD 1 cX8_write 15 (.iconst 0) 16 := ⟨by decide +kernel, rfl⟩
theorem dX8_write_16 : uD 1 cX8_write 16 (.ireturn) 17 := ⟨by decide +kernel, rfl⟩
theorem dX8_write_17 : uD 1 cX8_write 17 (.aload_n 0) 18 := ⟨by decide +kernel, rfl⟩
theorem dX8_write_18 : uD 1 cX8_write 18 (.iload_n 1) 19 := ⟨by decide +kernel, rfl⟩
theorem dX8_write_19 : uD 1 cX8_write 19 (.iload_n 2) 20 := ⟨by decide +kernel, rfl⟩
theorem dX8_write_20 : uD 1 cX8_write 20 (.iload_n 3) 21 := ⟨by decide +kernel, rfl⟩
theorem dX8_write_21 : uD 3 cX8_write 21 (.invokevirtual 209) 24 := ⟨by decide +kernel, rfl⟩
theorem dX8_write_24 : uD 2 cX8_write 24 (.istore 4) 26 := ⟨by decide +kernel, rfl⟩
theorem dX8_write_26 : uD 1 cX8_write 26 (.aload_n 0) 27 := ⟨by decide +kernel, rfl⟩
theorem dX8_write_27 : uD 1 cX8_write 27 (.iload_n 1) 28 := ⟨by decide +kernel, rfl⟩
theorem dX8_write_28 : uD 1 cX8_write 28 (.iload_n 2) 29 := ⟨by decide +kernel, rfl⟩
theorem dX8_write_29 : uD 3 cX8_write 29 (.invokevirtual 196) 32 := ⟨by decide +kernel, rfl⟩
theorem dX8_write_32 : uD 2 cX8_write 32 (.istore 5) 34 := ⟨by decide +kernel, rfl⟩
theorem dX8_write_34 : uD 2 cX8_write 34 (.iload 4) 36 := ⟨by decide +kernel, rfl⟩
theorem dX8_write_36 : uJ cX8_write 36 (fun o => .ifCond .ne o) 51 39 := ⟨15, by decide +kernel, by decide, rfl⟩
theorem dX8_write_39 : uD 2 cX8_write 39 (.iload 5) 41 := ⟨by decide +kernel, rfl⟩
theorem dX8_write_41 : uD 1 cX8_write 41 (.iconst (-1)) 42 := ⟨by decide +kernel, rfl⟩
theorem dX8_write_42 : uJ cX8_write 42 (fun o => .if_icmp .eq o) 51 45 := ⟨9, by decide +kernel, by decide, rfl⟩
theorem dX8_write_45 : uD 1 cX8_write 45 (.aload_n 0) 46 := ⟨by decide +kernel, rfl⟩
theorem dX8_write_46 : uD 2 cX8_write 46 (.iload 5) 48 := ⟨by decide +kernel, rfl⟩
theorem dX8_write_48 : uD 3 cX8_write 48 (.invokevirtual 163) 51 := ⟨by decide +kernel, rfl⟩
theorem dX8_write_51 : uD 1 cX8_write 51 (.aload_n 0) 52 := ⟨by decide +kernel, rfl⟩
theorem dX8_write_52 : uD 3 cX8_write 52 (.getfield 7) 55 := ⟨by decide +kernel, rfl⟩
theorem dX8_write_55 : uD 2 cX8_write 55 (.bipush 29) 57 := ⟨by decide +kernel, rfl⟩
theorem dX8_write_57 : uD 2 cX8_write 57 (.iload 4) 59 := ⟨by decide +kernel, rfl⟩
theorem dX8_write_59 : uJ cX8_write 59 (fun o => .ifCond .eq o) 66 62 := ⟨7, by decide +kernel, by decide, rfl⟩
theorem dX8_write_62 : uD 1 cX8_write 62 (.iconst 0) 63 := ⟨by decide +kernel, rfl⟩
theorem dX8_write_63 : uJ cX8_write 63 (fun o => .goto o) 67 66 := ⟨4, by decide +kernel, by decide, rfl⟩
theorem dX8_write_66 : uD 1 cX8_write 66 (.iconst 1) 67 := ⟨by decide +kernel, rfl⟩
theorem dX8_write_67 : uD 1 cX8_write 67 (.iadd) 68 := ⟨by decide +kernel, rfl⟩
theorem dX8_write_68 : uD 1 cX8_write 68 (.dup2) 69 := ⟨by decide +kernel, rfl⟩
theorem dX8_write_69 : uD 1 cX8_write 69 (.iaload) 70 := ⟨by decide +kernel, rfl⟩
theorem dX8_write_70 : uD 1 cX8_write 70 (.iconst 1) 71 := ⟨by decide +kernel, rfl⟩
theorem dX8_write_71 : uD 1 cX8_write 71 (.iadd) 72 := ⟨by decide +kernel, rfl⟩
theorem dX8_write_72 : uD 1 cX8_write 72 (.iastore) 73 := ⟨by decide +kernel, rfl⟩
theorem dX8_write_73 : uD 2 cX8_write 73 (.iload 4) 75 := ⟨by decide +kernel, rfl⟩
theorem dX8_write_75 : uD 1 cX8_write 75 (.ireturn) 76 := ⟨by decide +kernel, rfl⟩
theorem dX8_wouldCache_0 : uD 1 cX8_wouldCache 0 (.aload_n 0) 1 := ⟨by decide +kernel, rfl⟩
theorem dX8_wouldCache_1 : uD 1 cX8_wouldCache 1 (.iconst 0) 2 := ⟨by decide +kernel, rfl⟩
theorem dX8_wouldCache_2 : uD 3 cX8_wouldCache 2 (.putfield 49) 5 := ⟨by decide +kernel, rfl⟩
theorem dX8_wouldCache_5 : uD 1 cX8_wouldCache 5 (.aload_n 0) 6 := ⟨by decide +kernel, rfl⟩
theorem dX8_wouldCache_6 : uD 1 cX8_wouldCache 6 (.iload_n 1) 7 := ⟨by decide +kernel, rfl⟩
theorem dX8_wouldCache_7 : uD 1 cX8_wouldCache 7 (.iload_n 2) 8 := ⟨by decide +kernel, rfl⟩
theorem dX8_wouldCache_8 : uD 1 cX8_wouldCache 8 (.iload_n 3) 9 := ⟨by decide +kernel, rfl⟩
theorem dX8_wouldCache_9 : uD 3 cX8_wouldCache 9 (.invokevirtual 206) 12 := ⟨by decide +kernel, rfl⟩
theorem dX8_wouldCache_12 : uJ cX8_wouldCache 12 (fun o => .ifCond .ne o) 17 15 := ⟨5, by decide +kernel, by decide, rfl⟩
theorem dX8_wouldCache_15 : uD 1 cX8_wouldCache 15 (.iconst 0) 16 := ⟨by decide +kernel, rfl⟩
theorem dX8_wouldCache_16 : uD 1 cX8_wouldCache 16 (.ireturn) 17 := ⟨by decide +kernel, rfl⟩
theorem dX8_wouldCache_17 : uD 1 cX8_wouldCache 17 (.iconst 0) 18 := ⟨by decide +kernel, rfl⟩
theorem dX8_wouldCache_18 : uD 2 cX8_wouldCache 18 (.istore 4) 20 := ⟨by decide +kernel, rfl⟩
theorem dX8_wouldCache_20 : uD 2 cX8_wouldCache 20 (.iload 4) 22 := ⟨by decide +kernel, rfl⟩
theorem dX8_wouldCache_22 : uD 2 cX8_wouldCache 22 (.bipush 109) 24 := ⟨by decide +kernel, rfl⟩
theorem dX8_wouldCache_24 : uJ cX8_wouldCache 24 (fun o => .if_icmp .ge o) 47 27 := ⟨23, by decide +kernel, by decide, rfl⟩
theorem dX8_wouldCache_27 : uD 1 cX8_wouldCache 27 (.aload_n 0) 28 := ⟨by decide +kernel, rfl⟩
theorem dX8_wouldCache_28 : uD 3 cX8_wouldCache 28 (.getfield 19) 31 := ⟨by decide +kernel, rfl⟩
theorem dX8_wouldCache_31 : uD 2 cX8_wouldCache 31 (.iload 4) 33 := ⟨by decide +kernel, rfl⟩
theorem dX8_wouldCache_33 : uD 1 cX8_wouldCache 33 (.aload_n 0) 34 := ⟨by decide +kernel, rfl⟩
theorem dX8_wouldCache_34 : uD 3 cX8_wouldCache 34 (.getfield 7) 37 := ⟨by decide +kernel, rfl⟩
theorem dX8_wouldCache_37 : uD 2 cX8_wouldCache 37 (.iload 4) 39 := ⟨by decide +kernel, rfl⟩
theorem dX8_wouldCache_39 : uD 1 cX8_wouldCache 39 (.iaload) 40 := ⟨by decide +kernel, rfl⟩
theorem dX8_wouldCache_40 : uD 1 cX8_wouldCache 40 (.iastore) 41 := ⟨by decide +kernel, rfl⟩
theorem dX8_wouldCache_41 : uD 3 cX8_wouldCache 41 (.iinc 4 1) 44 := ⟨by decide +kernel, rfl⟩
theorem dX8_wouldCache_44 : uJ cX8_wouldCache 44 (fun o => .goto o) 20 47 := ⟨(-24), by decide +kernel, by decide, rfl⟩
theorem dX8_wouldCache_47 : uD 1 cX8_wouldCache 47 (.aload_n 0) 48 := ⟨by decide +kernel, rfl⟩
theorem dX8_wouldCache_48 : uD 1 cX8_wouldCache 48 (.iload_n 1) 49 := ⟨by decide +kernel, rfl⟩
theorem dX8_wouldCache_49 : uD 1 cX8_wouldCache 49 (.iload_n 2) 50 := ⟨by decide +kernel, rfl⟩
theorem dX8_wouldCache_50 : uD 1 cX8_wouldCache 50 (.iload_n 3) 51 := ⟨by decide +kernel, rfl⟩
theorem dX8_wouldCache_51 : uD 3 cX8_wouldCache 51 (.invokevirtual 209) 54 := ⟨by decide +kernel, rfl⟩
theorem dX8_wouldCache_54 : uD 2 cX8_wouldCache 54 (.istore 4) 56 := ⟨by decide +kernel, rfl⟩
theorem dX8_wouldCache_56 : uD 1 cX8_wouldCache 56 (.iconst 0) 57 := ⟨by decide +kernel, rfl⟩
theorem dX8_wouldCache_57 : uD 2 cX8_wouldCache 57 (.istore 5) 59 := ⟨by decide +kernel, rfl⟩
theorem dX8_wouldCache_59 : uD 2 cX8_wouldCache 59 (.iload 5) 61 := ⟨by decide +kernel, rfl⟩
theorem dX8_wouldCache_61 : uD 2 cX8_wouldCache 61 (.bipush 109) 63 := ⟨by decide +kernel, rfl⟩
theorem dX8_wouldCache_63 : uJ cX8_wouldCache 63 (fun o => .if_icmp .ge o) 86 66 := ⟨23, by decide +kernel, by decide, rfl⟩
theorem dX8_wouldCache_66 : uD 1 cX8_wouldCache 66 (.aload_n 0) 67 := ⟨by decide +kernel, rfl⟩
theorem dX8_wouldCache_67 : uD 3 cX8_wouldCache 67 (.getfield 7) 70 := ⟨by decide +kernel, rfl⟩
theorem dX8_wouldCache_70 : uD 2 cX8_wouldCache 70 (.iload 5) 72 := ⟨by decide +kernel, rfl⟩
theorem dX8_wouldCache_72 : uD 1 cX8_wouldCache 72 (.aload_n 0) 73 := ⟨by decide +kernel, rfl⟩
theorem dX8_wouldCache_73 : uD 3 cX8_wouldCache 73 (.getfield 19) 76 := ⟨by decide +kernel, rfl⟩
theorem dX8_wouldCache_76 : uD 2 cX8_wouldCache 76 (.iload 5) 78 := ⟨by decide +kernel, rfl⟩
theorem dX8_wouldCache_78 : uD 1 cX8_wouldCache 78 (.iaload) 79 := ⟨by decide +kernel, rfl⟩
theorem dX8_wouldCache_79 : uD 1 cX8_wouldCache 79 (.iastore) 80 := ⟨by decide +kernel, rfl⟩
theorem dX8_wouldCache_80 : uD 3 cX8_wouldCache 80 (.iinc 5 1) 83 := ⟨by decide +kernel, rfl⟩
theorem dX8_wouldCache_83 : uJ cX8_wouldCache 83 (fun o => .goto o) 59 86 := ⟨(-24), by decide +kernel, by decide, rfl⟩
theorem dX8_wouldCache_86 : uD 2 cX8_wouldCache 86 (.iload 4) 88 := ⟨by decide +kernel, rfl⟩
theorem dX8_wouldCache_88 : uD 1 cX8_wouldCache 88 (.ireturn) 89 := ⟨by decide +kernel, rfl⟩
theorem dX8_clean_0 : uD 1 cX8_clean 0 (.aload_n 0) 1 := ⟨by decide +kernel, rfl⟩
theorem dX8_clean_1 : uD 1 cX8_clean 1 (.iconst 0) 2 := ⟨by decide +kernel, rfl⟩
theorem dX8_clean_2 : uD 3 cX8_clean 2 (.putfield 49) 5 := ⟨by decide +kernel, rfl⟩
theorem dX8_clean_5 : uD 1 cX8_clean 5 (.aload_n 0) 6 := ⟨by decide +kernel, rfl⟩
theorem dX8_clean_6 : uD 1 cX8_clean 6 (.aload_n 0) 7 := ⟨by decide +kernel, rfl⟩
theorem dX8_clean_7 : uD 1 cX8_clean 7 (.iload_n 1) 8 := ⟨by decide +kernel, rfl⟩
theorem dX8_clean_8 : uD 3 cX8_clean 8 (.invokevirtual 178) 11 := ⟨by decide +kernel, rfl⟩
theorem dX8_clean_11 : uD 1 cX8_clean 11 (.iconst 1) 12 := ⟨by decide +kernel, rfl⟩
theorem dX8_clean_12 : uD 3 cX8_clean 12 (.invokevirtual 55) 15 := ⟨by decide +kernel, rfl⟩
theorem dX8_clean_15 : uJ cX8_clean 15 (fun o => .ifCond .eq o) 50 18 := ⟨35, by decide +kernel, by decide, rfl⟩
theorem dX8_clean_18 : uD 1 cX8_clean 18 (.aload_n 0) 19 := ⟨by decide +kernel, rfl⟩
theorem dX8_clean_19 : uD 1 cX8_clean 19 (.aload_n 0) 20 := ⟨by decide +kernel, rfl⟩
theorem dX8_clean_20 : uD 3 cX8_clean 20 (.getfield 7) 23 := ⟨by decide +kernel, rfl⟩
theorem dX8_clean_23 : uD 2 cX8_clean 23 (.bipush 27) 25 := ⟨by decide +kernel, rfl⟩
theorem dX8_clean_25 : uD 1 cX8_clean 25 (.iaload) 26 := ⟨by decide +kernel, rfl⟩
theorem dX8_clean_26 : uD 1 cX8_clean 26 (.iconst 1) 27 := ⟨by decide +kernel, rfl⟩
theorem dX8_clean_27 : uJ cX8_clean 27 (fun o => .if_icmp .ne o) 42 30 := ⟨15, by decide +kernel, by decide, rfl⟩
theorem dX8_clean_30 : uD 1 cX8_clean 30 (.aload_n 0) 31 := ⟨by decide +kernel, rfl⟩
theorem dX8_clean_31 : uD 1 cX8_clean 31 (.iload_n 1) 32 := ⟨by decide +kernel, rfl⟩
theorem dX8_clean_32 : uD 3 cX8_clean 32 (.invokevirtual 169) 35 := ⟨by decide +kernel, rfl⟩
theorem dX8_clean_35 : uJ cX8_clean 35 (fun o => .ifCond .ne o) 42 38 := ⟨7, by decide +kernel, by decide, rfl⟩
theorem dX8_clean_38 : uD 1 cX8_clean 38 (.iconst 1) 39 := ⟨by decide +kernel, rfl⟩
theorem dX8_clean_39 : uJ cX8_clean 39 (fun o => .goto o) 43 42 := ⟨4, by decide +kernel, by decide, rfl⟩
theorem dX8_clean_42 : uD 1 cX8_clean 42 (.iconst 0) 43 := ⟨by decide +kernel, rfl⟩
theorem dX8_clean_43 : uD 1 cX8_clean 43 (.iconst 2) 44 := ⟨by decide +kernel, rfl⟩
theorem dX8_clean_44 : uD 3 cX8_clean 44 (.invokevirtual 55) 47 := ⟨by decide +kernel, rfl⟩
theorem dX8_clean_47 : uJ cX8_clean 47 (fun o => .ifCond .ne o) 52 50 := ⟨5, by decide +kernel, by decide, rfl⟩
theorem dX8_clean_50 : uD 1 cX8_clean 50 (.iconst 0) 51 := ⟨by decide +kernel, rfl⟩
theorem dX8_clean_51 : uD 1 cX8_clean 51 (.ireturn) 52 := ⟨by decide +kernel, rfl⟩
theorem dX8_clean_52 : uD 1 cX8_clean 52 (.aload_n 0) 53 := ⟨by decide +kernel, rfl⟩
theorem dX8_clean_53 : uD 1 cX8_clean 53 (.iload_n 1) 54 := ⟨by decide +kernel, rfl⟩
theorem dX8_clean_54 : uD 3 cX8_clean 54 (.invokevirtual 181) 57 := ⟨by decide +kernel, rfl⟩
theorem dX8_clean_57 : uD 1 cX8_clean 57 (.istore_n 2) 58 := ⟨by decide +kernel, rfl⟩
theorem dX8_clean_58 : uD 1 cX8_clean 58 (.aload_n 0) 59 := ⟨by decide +kernel, rfl⟩
theorem dX8_clean_59 : uD 1 cX8_clean 59 (.iload_n 2) 60 := ⟨by decide +kernel, rfl⟩
theorem dX8_clean_60 : uD 3 cX8_clean 60 (.invokevirtual 212) 63 := ⟨by decide +kernel, rfl⟩
theorem dX8_clean_63 : uD 1 cX8_clean 63 (.aload_n 0) 64 := ⟨by decide +kernel, rfl⟩
theorem dX8_clean_64 : uD 3 cX8_clean 64 (.getfield 7) 67 := ⟨by decide +kernel, rfl⟩
theorem dX8_clean_67 : uD 2 cX8_clean 67 (.bipush 35) 69 := ⟨by decide +kernel, rfl⟩
theorem dX8_clean_69 : uD 1 cX8_clean 69 (.dup2) 70 := ⟨by decide +kernel, rfl⟩
theorem dX8_clean_70 : uD 1 cX8_clean 70 (.iaload) 71 := ⟨by decide +kernel, rfl⟩
theorem dX8_clean_71 : uD 1 cX8_clean 71 (.iload_n 2) 72 := ⟨by decide +kernel, rfl⟩
theorem dX8_clean_72 : uD 3 cX8_clean 72 (.invokestatic 184) 75 := ⟨by decide +kernel, rfl⟩
theorem dX8_clean_75 : uD 1 cX8_clean 75 (.iadd) 76 := ⟨by decide +kernel, rfl⟩
theorem dX8_clean_76 : uD 1 cX8_clean 76 (.iastore) 77 := ⟨by decide +kernel, rfl⟩
theorem dX8_clean_77 : uD 1 cX8_clean 77 (.iload_n 2) 78 := ⟨by decide +kernel, rfl⟩
theorem dX8_clean_78 : uD 3 cX8_clean 78 (.invokestatic 184) 81 := ⟨by decide +kernel, rfl⟩
theorem dX8_clean_81 : uD 1 cX8_clean 81 (.ireturn) 82 := ⟨by decide +kernel, rfl⟩
theorem dX8_setFailed_0 : uD 1 cX8_setFailed 0 (.aload_n 0) 1 := ⟨by decide +kernel, rfl⟩
theorem dX8_setFailed_1 : uD 1 cX8_setFailed 1 (.iconst 0) 2 := ⟨by decide +kernel, rfl⟩
theorem dX8_setFailed_2 : uD 3 cX8_setFailed 2 (.putfield 49) 5 := ⟨by decide +kernel, rfl⟩
theorem dX8_setFailed_5 : uD 1 cX8_setFailed 5 (.aload_n 0) 6 := ⟨by decide +kernel, rfl⟩
theorem dX8_setFailed_6 : uD 1 cX8_setFailed 6 (.aload_n 0) 7 := ⟨by decide +kernel, rfl⟩
theorem dX8_setFailed_7 : uD 1 cX8_setFailed 7 (.iload_n 1) 8 := ⟨by decide +kernel, rfl⟩
theorem dX8_setFailed_8 : uD 3 cX8_setFailed 8 (.invokevirtual 178) 11 := ⟨by decide +kernel, rfl⟩
theorem dX8_setFailed_11 : uD 1 cX8_setFailed 11 (.iconst 1) 12 := ⟨by decide +kernel, rfl⟩
theorem dX8_setFailed_12 : uD 3 cX8_setFailed 12 (.invokevirtual 55) 15 := ⟨by decide +kernel, rfl⟩
theorem dX8_setFailed_15 : uJ cX8_setFailed 15 (fun o => .ifCond .ne o) 20 18 := ⟨5, by decide +kernel, by decide, rfl⟩
theorem dX8_setFailed_18 : uD 1 cX8_setFailed 18 (.iconst 0) 19 := ⟨by decide +kernel, rfl⟩
theorem dX8_setFailed_19 : uD 1 cX8_setFailed 19 (.ireturn) 20 := ⟨by decide +kernel, rfl⟩
theorem dX8_setFailed_20 : uD 1 cX8_setFailed 20 (.aload_n 0) 21 := ⟨by decide +kernel, rfl⟩
theorem dX8_setFailed_21 : uD 1 cX8_setFailed 21 (.iload_n 1) 22 := ⟨by decide +kernel, rfl⟩
theorem dX8_setFailed_22 : uD 3 cX8_setFailed 22 (.invokevirtual 169) 25 := ⟨by decide +kernel, rfl⟩
theorem dX8_setFailed_25 : uD 1 cX8_setFailed 25 (.istore_n 3) 26 := ⟨by decide +kernel, rfl⟩
theorem dX8_setFailed_26 : uD 1 cX8_setFailed 26 (.aload_n 0) 27 := ⟨by decide +kernel, rfl⟩
theorem dX8_setFailed_27 : uD 3 cX8_setFailed 27 (.getfield 7) 30 := ⟨by decide +kernel, rfl⟩
theorem dX8_setFailed_30 : uD 2 cX8_setFailed 30 (.bipush 25) 32 := ⟨by decide +kernel, rfl⟩
theorem dX8_setFailed_32 : uD 1 cX8_setFailed 32 (.iload_n 2) 33 := ⟨by decide +kernel, rfl⟩
theorem dX8_setFailed_33 : uJ cX8_setFailed 33 (fun o => .ifCond .eq o) 50 36 := ⟨17, by decide +kernel, by decide, rfl⟩
theorem dX8_setFailed_36 : uD 1 cX8_setFailed 36 (.aload_n 0) 37 := ⟨by decide +kernel, rfl⟩
theorem dX8_setFailed_37 : uD 3 cX8_setFailed 37 (.getfield 7) 40 := ⟨by decide +kernel, rfl⟩
theorem dX8_setFailed_40 : uD 2 cX8_setFailed 40 (.bipush 25) 42 := ⟨by decide +kernel, rfl⟩
theorem dX8_setFailed_42 : uD 1 cX8_setFailed 42 (.iaload) 43 := ⟨by decide +kernel, rfl⟩
theorem dX8_setFailed_43 : uD 1 cX8_setFailed 43 (.iconst 1) 44 := ⟨by decide +kernel, rfl⟩
theorem dX8_setFailed_44 : uD 1 cX8_setFailed 44 (.iload_n 1) 45 := ⟨by decide +kernel, rfl⟩
theorem dX8_setFailed_45 : uD 1 cX8_setFailed 45 (.ishl) 46 := ⟨by decide +kernel, rfl⟩
theorem dX8_setFailed_46 : uD 1 cX8_setFailed 46 (.ior) 47 := ⟨by decide +kernel, rfl⟩
theorem dX8_setFailed_47 : uJ cX8_setFailed 47 (fun o => .goto o) 63 50 := ⟨16, by decide +kernel, by decide, rfl⟩
theorem dX8_setFailed_50 : uD 1 cX8_setFailed 50 (.aload_n 0) 51 := ⟨by decide +kernel, rfl⟩
theorem dX8_setFailed_51 : uD 3 cX8_setFailed 51 (.getfield 7) 54 := ⟨by decide +kernel, rfl⟩
theorem dX8_setFailed_54 : uD 2 cX8_setFailed 54 (.bipush 25) 56 := ⟨by decide +kernel, rfl⟩
theorem dX8_setFailed_56 : uD 1 cX8_setFailed 56 (.iaload) 57 := ⟨by decide +kernel, rfl⟩
theorem dX8_setFailed_57 : uD 1 cX8_setFailed 57 (.iconst 1) 58 := ⟨by decide +kernel, rfl⟩
theorem dX8_setFailed_58 : uD 1 cX8_setFailed 58 (.iload_n 1) 59 := ⟨by decide +kernel, rfl⟩
theorem dX8_setFailed_59 : uD 1 cX8_setFailed 59 (.ishl) 60 := ⟨by decide +kernel, rfl⟩
theorem dX8_setFailed_60 : uD 1 cX8_setFailed 60 (.iconst (-1)) 61 := ⟨by decide +kernel, rfl⟩
theorem dX8_setFailed_61 : uD 1 cX8_setFailed 61 (.ixor) 62 := ⟨by decide +kernel, rfl⟩
theorem dX8_setFailed_62 : uD 1 cX8_setFailed 62 (.iand) 63 := ⟨by decide +kernel, rfl⟩
theorem dX8_setFailed_63 : uD 1 cX8_setFailed 63 (.iastore) 64 := ⟨by decide +kernel, rfl⟩
theorem dX8_setFailed_64 : uD 1 cX8_setFailed 64 (.iload_n 3) 65 := ⟨by decide +kernel, rfl⟩
theorem dX8_setFailed_65 : uD 1 cX8_setFailed 65 (.ireturn) 66 := ⟨by decide +kernel, rfl⟩
theorem dX8_setMode_0 : uD 1 cX8_setMode 0 (.aload_n 0) 1 := ⟨by decide +kernel, rfl⟩
theorem dX8_setMode_1 : uD 1 cX8_setMode 1 (.iconst 0) 2 := ⟨by decide +kernel, rfl⟩
theorem dX8_setMode_2 : uD 3 cX8_setMode 2 (.putfield 49) 5 := ⟨by decide +kernel, rfl⟩
theorem dX8_setMode_5 : uD 1 cX8_setMode 5 (.iload_n 1) 6 := ⟨by decide +kernel, rfl⟩
theorem dX8_setMode_6 : uD 1 cX8_setMode 6 (.iconst 0) 7 := ⟨by decide +kernel, rfl⟩
theorem dX8_setMode_7 : uD 1 cX8_setMode 7 (.iconst 2) 8 := ⟨by decide +kernel, rfl⟩
theorem dX8_setMode_8 : uD 3 cX8_setMode 8 (.invokestatic 59) 11 := ⟨by decide +kernel, rfl⟩
theorem dX8_setMode_11 : uJ cX8_setMode 11 (fun o => .ifCond .eq o) 40 14 := ⟨29, by decide +kernel, by decide, rfl⟩
theorem dX8_setMode_14 : uD 1 cX8_setMode 14 (.iload_n 1) 15 := ⟨by decide +kernel, rfl⟩
theorem dX8_setMode_15 : uD 1 cX8_setMode 15 (.iconst 1) 16 := ⟨by decide +kernel, rfl⟩
theorem dX8_setMode_16 : uJ cX8_setMode 16 (fun o => .if_icmp .ne o) 32 19 := ⟨16, by decide +kernel, by decide, rfl⟩
theorem dX8_setMode_19 : uD 1 cX8_setMode 19 (.iload_n 2) 20 := ⟨by decide +kernel, rfl⟩
theorem dX8_setMode_20 : uD 1 cX8_setMode 20 (.iconst 1) 21 := ⟨by decide +kernel, rfl⟩
theorem dX8_setMode_21 : uD 2 cX8_setMode 21 (.bipush 99) 23 := ⟨by decide +kernel, rfl⟩
theorem dX8_setMode_23 : uD 3 cX8_setMode 23 (.invokestatic 59) 26 := ⟨by decide +kernel, rfl⟩
theorem dX8_setMode_26 : uJ cX8_setMode 26 (fun o => .ifCond .eq o) 40 29 := ⟨14, by decide +kernel, by decide, rfl⟩
theorem dX8_setMode_29 : uJ cX8_setMode 29 (fun o => .goto o) 36 32 := ⟨7, by decide +kernel, by decide, rfl⟩
theorem dX8_setMode_32 : uD 1 cX8_setMode 32 (.iload_n 2) 33 := ⟨by decide +kernel, rfl⟩
theorem dX8_setMode_33 : uJ cX8_setMode 33 (fun o => .ifCond .ne o) 40 36 := ⟨7, by decide +kernel, by decide, rfl⟩
theorem dX8_setMode_36 : uD 1 cX8_setMode 36 (.iconst 1) 37 := ⟨by decide +kernel, rfl⟩
theorem dX8_setMode_37 : uJ cX8_setMode 37 (fun o => .goto o) 41 40 := ⟨4, by decide +kernel, by decide, rfl⟩
theorem dX8_setMode_40 : uD 1 cX8_setMode 40 (.iconst 0) 41 := ⟨by decide +kernel, rfl⟩
theorem dX8_setMode_41 : uD 1 cX8_setMode 41 (.istore_n 3) 42 := ⟨by decide +kernel, rfl⟩
theorem dX8_setMode_42 : uD 1 cX8_setMode 42 (.aload_n 0) 43 := ⟨by decide +kernel, rfl⟩
theorem dX8_setMode_43 : uD 1 cX8_setMode 43 (.iload_n 3) 44 := ⟨by decide +kernel, rfl⟩
theorem dX8_setMode_44 : uD 1 cX8_setMode 44 (.iconst 1) 45 := ⟨by decide +kernel, rfl⟩
theorem dX8_setMode_45 : uD 3 cX8_setMode 45 (.invokevirtual 55) 48 := ⟨by decide +kernel, rfl⟩
theorem dX8_setMode_48 : uJ cX8_setMode 48 (fun o => .ifCond .ne o) 53 51 := ⟨5, by decide +kernel, by decide, rfl⟩
theorem dX8_setMode_51 : uD 1 cX8_setMode 51 (.iconst 0) 52 := ⟨by decide +kernel, rfl⟩
theorem dX8_setMode_52 : uD 1 cX8_setMode 52 (.ireturn) 53 := ⟨by decide +kernel, rfl⟩
theorem dX8_setMode_53 : uD 1 cX8_setMode 53 (.aload_n 0) 54 := ⟨by decide +kernel, rfl⟩
theorem dX8_setMode_54 : uD 3 cX8_setMode 54 (.getfield 7) 57 := ⟨by decide +kernel, rfl⟩
theorem dX8_setMode_57 : uD 2 cX8_setMode 57 (.bipush 7) 59 := ⟨by decide +kernel, rfl⟩
theorem dX8_setMode_59 : uD 1 cX8_setMode 59 (.iaload) 60 := ⟨by decide +kernel, rfl⟩
theorem dX8_setMode_60 : uD 2 cX8_setMode 60 (.istore 4) 62 := ⟨by decide +kernel, rfl⟩
theorem dX8_setMode_62 : uD 1 cX8_setMode 62 (.aload_n 0) 63 := ⟨by decide +kernel, rfl⟩
theorem dX8_setMode_63 : uD 3 cX8_setMode 63 (.getfield 7) 66 := ⟨by decide +kernel, rfl⟩
theorem dX8_setMode_66 : uD 2 cX8_setMode 66 (.bipush 7) 68 := ⟨by decide +kernel, rfl⟩
theorem dX8_setMode_68 : uD 1 cX8_setMode 68 (.iload_n 1) 69 := ⟨by decide +kernel, rfl⟩
theorem dX8_setMode_69 : uD 1 cX8_setMode 69 (.iastore) 70 := ⟨by decide +kernel, rfl⟩
theorem dX8_setMode_70 : uD 1 cX8_setMode 70 (.aload_n 0) 71 := ⟨by decide +kernel, rfl⟩
theorem dX8_setMode_71 : uD 3 cX8_setMode 71 (.getfield 7) 74 := ⟨by decide +kernel, rfl⟩
theorem dX8_setMode_74 : uD 2 cX8_setMode 74 (.bipush 8) 76 := ⟨by decide +kernel, rfl⟩
theorem dX8_setMode_76 : uD 1 cX8_setMode 76 (.iload_n 2) 77 := ⟨by decide +kernel, rfl⟩
theorem dX8_setMode_77 : uD 1 cX8_setMode 77 (.iastore) 78 := ⟨by decide +kernel, rfl⟩
theorem dX8_setMode_78 : uD 2 cX8_setMode 78 (.iload 4) 80 := ⟨by decide +kernel, rfl⟩
theorem dX8_setMode_80 : uD 1 cX8_setMode 80 (.ireturn) 81 := ⟨by decide +kernel, rfl⟩
theorem dX8_setPower_0 : uD 1 cX8_setPower 0 (.aload_n 0) 1 := ⟨by decide +kernel, rfl⟩
theorem dX8_setPower_1 : uD 1 cX8_setPower 1 (.iconst 0) 2 := ⟨by decide +kernel, rfl⟩
theorem dX8_setPower_2 : uD 3 cX8_setPower 2 (.putfield 49) 5 := ⟨by decide +kernel, rfl⟩
theorem dX8_setPower_5 : uD 1 cX8_setPower 5 (.aload_n 0) 6 := ⟨by decide +kernel, rfl⟩
theorem dX8_setPower_6 : uD 3 cX8_setPower 6 (.getfield 7) 9 := ⟨by decide +kernel, rfl⟩
theorem dX8_setPower_9 : uD 2 cX8_setPower 9 (.bipush 27) 11 := ⟨by decide +kernel, rfl⟩
theorem dX8_setPower_11 : uD 1 cX8_setPower 11 (.iaload) 12 := ⟨by decide +kernel, rfl⟩
theorem dX8_setPower_12 : uD 1 cX8_setPower 12 (.iconst 1) 13 := ⟨by decide +kernel, rfl⟩
theorem dX8_setPower_13 : uJ cX8_setPower 13 (fun o => .if_icmp .ne o) 20 16 := ⟨7, by decide +kernel, by decide, rfl⟩
theorem dX8_setPower_16 : uD 1 cX8_setPower 16 (.iconst 1) 17 := ⟨by decide +kernel, rfl⟩
theorem dX8_setPower_17 : uJ cX8_setPower 17 (fun o => .goto o) 21 20 := ⟨4, by decide +kernel, by decide, rfl⟩
theorem dX8_setPower_20 : uD 1 cX8_setPower 20 (.iconst 0) 21 := ⟨by decide +kernel, rfl⟩
theorem dX8_setPower_21 : uD 1 cX8_setPower 21 (.istore_n 2) 22 := ⟨by decide +kernel, rfl⟩
theorem dX8_setPower_22 : uD 1 cX8_setPower 22 (.aload_n 0) 23 := ⟨by decide +kernel, rfl⟩
theorem dX8_setPower_23 : uD 3 cX8_setPower 23 (.getfield 7) 26 := ⟨by decide +kernel, rfl⟩
theorem dX8_setPower_26 : uD 2 cX8_setPower 26 (.bipush 27) 28 := ⟨by decide +kernel, rfl⟩
theorem dX8_setPower_28 : uD 1 cX8_setPower 28 (.iload_n 1) 29 := ⟨by decide +kernel, rfl⟩
theorem dX8_setPower_29 : uJ cX8_setPower 29 (fun o => .ifCond .eq o) 36 32 := ⟨7, by decide +kernel, by decide, rfl⟩
theorem dX8_setPower_32 : uD 1 cX8_setPower 32 (.iconst 1) 33 := ⟨by decide +kernel, rfl⟩
theorem dX8_setPower_33 : uJ cX8_setPower 33 (fun o => .goto o) 37 36 := ⟨4, by decide +kernel, by decide, rfl⟩
theorem dX8_setPower_36 : uD 1 cX8_setPower 36 (.iconst 0) 37 := ⟨by decide +kernel, rfl⟩
theorem dX8_setPower_37 : uD 1 cX8_setPower 37 (.iastore) 38 := ⟨by decide +kernel, rfl⟩
theorem dX8_setPower_38 : uD 1 cX8_setPower 38 (.iload_n 2) 39 := ⟨by decide +kernel, rfl⟩
theorem dX8_setPower_39 : uD 1 cX8_setPower 39 (.ireturn) 40 := ⟨by decide +kernel, rfl⟩
theorem dX8_drains_0 : uD 1 cX8_drains 0 (.aload_n 0) 1 := ⟨by decide +kernel, rfl⟩
theorem dX8_drains_1 : uD 3 cX8_drains 1 (.getfield 7) 4 := ⟨by decide +kernel, rfl⟩
theorem dX8_drains_4 : uD 2 cX8_drains 4 (.bipush 28) 6 := ⟨by decide +kernel, rfl⟩
theorem dX8_drains_6 : uD 1 cX8_drains 6 (.iaload) 7 := ⟨by decide +kernel, rfl⟩
theorem dX8_drains_7 : uD 1 cX8_drains 7 (.aload_n 0) 8 := ⟨by decide +kernel, rfl⟩
theorem dX8_drains_8 : uD 3 cX8_drains 8 (.getfield 7) 11 := ⟨by decide +kernel, rfl⟩
theorem dX8_drains_11 : uD 1 cX8_drains 11 (.iconst 4) 12 := ⟨by decide +kernel, rfl⟩
theorem dX8_drains_12 : uD 1 cX8_drains 12 (.iaload) 13 := ⟨by decide +kernel, rfl⟩
theorem dX8_drains_13 : uD 1 cX8_drains 13 (.idiv) 14 := ⟨by decide +kernel, rfl⟩
theorem dX8_drains_14 : uD 1 cX8_drains 14 (.istore_n 2) 15 := ⟨by decide +kernel, rfl⟩
theorem dX8_drains_15 : uD 1 cX8_drains 15 (.aload_n 0) 16 := ⟨by decide +kernel, rfl⟩
theorem dX8_drains_16 : uD 3 cX8_drains 16 (.getfield 7) 19 := ⟨by decide +kernel, rfl⟩
theorem dX8_drains_19 : uD 1 cX8_drains 19 (.iconst 1) 20 := ⟨by decide +kernel, rfl⟩
theorem dX8_drains_20 : uD 1 cX8_drains 20 (.dup2) 21 := ⟨by decide +kernel, rfl⟩
theorem dX8_drains_21 : uD 1 cX8_drains 21 (.iaload) 22 := ⟨by decide +kernel, rfl⟩
theorem dX8_drains_22 : uD 1 cX8_drains 22 (.iload_n 1) 23 := ⟨by decide +kernel, rfl⟩
theorem dX8_drains_23 : uD 1 cX8_drains 23 (.isub) 24 := ⟨by decide +kernel, rfl⟩
theorem dX8_drains_24 : uD 1 cX8_drains 24 (.iastore) 25 := ⟨by decide +kernel, rfl⟩
theorem dX8_drains_25 : uD 1 cX8_drains 25 (.aload_n 0) 26 := ⟨by decide +kernel, rfl⟩
theorem dX8_drains_26 : uD 3 cX8_drains 26 (.getfield 7) 29 := ⟨by decide +kernel, rfl⟩
theorem dX8_drains_29 : uD 2 cX8_drains 29 (.bipush 28) 31 := ⟨by decide +kernel, rfl⟩
theorem dX8_drains_31 : uD 1 cX8_drains 31 (.dup2) 32 := ⟨by decide +kernel, rfl⟩
theorem dX8_drains_32 : uD 1 cX8_drains 32 (.iaload) 33 := ⟨by decide +kernel, rfl⟩
theorem dX8_drains_33 : uD 1 cX8_drains 33 (.iload_n 1) 34 := ⟨by decide +kernel, rfl⟩
theorem dX8_drains_34 : uD 1 cX8_drains 34 (.iadd) 35 := ⟨by decide +kernel, rfl⟩
theorem dX8_drains_35 : uD 1 cX8_drains 35 (.iastore) 36 := ⟨by decide +kernel, rfl⟩
theorem dX8_drains_36 : uD 1 cX8_drains 36 (.aload_n 0) 37 := ⟨by decide +kernel, rfl⟩
theorem dX8_drains_37 : uD 3 cX8_drains 37 (.getfield 7) 40 := ⟨by decide +kernel, rfl⟩
theorem dX8_drains_40 : uD 1 cX8_drains 40 (.iconst 0) 41 := ⟨by decide +kernel, rfl⟩
theorem dX8_drains_41 : uD 1 cX8_drains 41 (.dup2) 42 := ⟨by decide +kernel, rfl⟩
theorem dX8_drains_42 : uD 1 cX8_drains 42 (.iaload) 43 := ⟨by decide +kernel, rfl⟩
theorem dX8_drains_43 : uD 1 cX8_drains 43 (.aload_n 0) 44 := ⟨by decide +kernel, rfl⟩
theorem dX8_drains_44 : uD 3 cX8_drains 44 (.getfield 7) 47 := ⟨by decide +kernel, rfl⟩
theorem dX8_drains_47 : uD 2 cX8_drains 47 (.bipush 28) 49 := ⟨by decide +kernel, rfl⟩
theorem dX8_drains_49 : uD 1 cX8_drains 49 (.iaload) 50 := ⟨by decide +kernel, rfl⟩
theorem dX8_drains_50 : uD 1 cX8_drains 50 (.aload_n 0) 51 := ⟨by decide +kernel, rfl⟩
theorem dX8_drains_51 : uD 3 cX8_drains 51 (.getfield 7) 54 := ⟨by decide +kernel, rfl⟩
theorem dX8_drains_54 : uD 1 cX8_drains 54 (.iconst 4) 55 := ⟨by decide +kernel, rfl⟩
theorem dX8_drains_55 : uD 1 cX8_drains 55 (.iaload) 56 := ⟨by decide +kernel, rfl⟩
theorem dX8_drains_56 : uD 1 cX8_drains 56 (.idiv) 57 := ⟨by decide +kernel, rfl⟩
theorem dX8_drains_57 : uD 1 cX8_drains 57 (.iload_n 2) 58 := ⟨by decide +kernel, rfl⟩
theorem dX8_drains_58 : uD 1 cX8_drains 58 (.isub) 59 := ⟨by decide +kernel, rfl⟩
theorem dX8_drains_59 : uD 1 cX8_drains 59 (.isub) 60 := ⟨by decide +kernel, rfl⟩
theorem dX8_drains_60 : uD 1 cX8_drains 60 (.iastore) 61 := ⟨by decide +kernel, rfl⟩
theorem dX8_drains_61 : uD 1 cX8_drains 61 (.aload_n 0) 62 := ⟨by decide +kernel, rfl⟩
theorem dX8_drains_62 : uD 3 cX8_drains 62 (.getfield 7) 65 := ⟨by decide +kernel, rfl⟩
theorem dX8_drains_65 : uD 1 cX8_drains 65 (.iconst 0) 66 := ⟨by decide +kernel, rfl⟩
theorem dX8_drains_66 : uD 1 cX8_drains 66 (.iaload) 67 := ⟨by decide +kernel, rfl⟩
theorem dX8_drains_67 : uD 1 cX8_drains 67 (.iconst 1) 68 := ⟨by decide +kernel, rfl⟩
theorem dX8_drains_68 : uJ cX8_drains 68 (fun o => .if_icmp .ge o) 78 71 := ⟨10, by decide +kernel, by decide, rfl⟩
theorem dX8_drains_71 : uD 1 cX8_drains 71 (.aload_n 0) 72 := ⟨by decide +kernel, rfl⟩
theorem dX8_drains_72 : uD 3 cX8_drains 72 (.getfield 7) 75 := ⟨by decide +kernel, rfl⟩
theorem dX8_drains_75 : uD 1 cX8_drains 75 (.iconst 0) 76 := ⟨by decide +kernel, rfl⟩
theorem dX8_drains_76 : uD 1 cX8_drains 76 (.iconst 1) 77 := ⟨by decide +kernel, rfl⟩
theorem dX8_drains_77 : uD 1 cX8_drains 77 (.iastore) 78 := ⟨by decide +kernel, rfl⟩
theorem dX8_drains_78 : uD 1 cX8_drains 78 (.aload_n 0) 79 := ⟨by decide +kernel, rfl⟩
theorem dX8_drains_79 : uD 3 cX8_drains 79 (.getfield 7) 82 := ⟨by decide +kernel, rfl⟩
theorem dX8_drains_82 : uD 1 cX8_drains 82 (.iconst 1) 83 := ⟨by decide +kernel, rfl⟩
theorem dX8_drains_83 : uD 1 cX8_drains 83 (.iaload) 84 := ⟨by decide +kernel, rfl⟩
theorem dX8_drains_84 : uD 1 cX8_drains 84 (.aload_n 0) 85 := ⟨by decide +kernel, rfl⟩
theorem dX8_drains_85 : uD 3 cX8_drains 85 (.getfield 7) 88 := ⟨by decide +kernel, rfl⟩
theorem dX8_drains_88 : uD 1 cX8_drains 88 (.iconst 0) 89 := ⟨by decide +kernel, rfl⟩
theorem dX8_drains_89 : uD 1 cX8_drains 89 (.iaload) 90 := ⟨by decide +kernel, rfl⟩
theorem dX8_drains_90 : uJ cX8_drains 90 (fun o => .if_icmp .le o) 105 93 := ⟨15, by decide +kernel, by decide, rfl⟩
theorem dX8_drains_93 : uD 1 cX8_drains 93 (.aload_n 0) 94 := ⟨by decide +kernel, rfl⟩
theorem dX8_drains_94 : uD 3 cX8_drains 94 (.getfield 7) 97 := ⟨by decide +kernel, rfl⟩
theorem dX8_drains_97 : uD 1 cX8_drains 97 (.iconst 1) 98 := ⟨by decide +kernel, rfl⟩
theorem dX8_drains_98 : uD 1 cX8_drains 98 (.aload_n 0) 99 := ⟨by decide +kernel, rfl⟩
theorem dX8_drains_99 : uD 3 cX8_drains 99 (.getfield 7) 102 := ⟨by decide +kernel, rfl⟩
theorem dX8_drains_102 : uD 1 cX8_drains 102 (.iconst 0) 103 := ⟨by decide +kernel, rfl⟩
theorem dX8_drains_103 : uD 1 cX8_drains 103 (.iaload) 104 := ⟨by decide +kernel, rfl⟩
theorem dX8_drains_104 : uD 1 cX8_drains 104 (.iastore) 105 := ⟨by decide +kernel, rfl⟩
theorem dX8_drains_105 : uD 1 cX8_drains 105 (.return_) 106 := ⟨by decide +kernel, rfl⟩
theorem dX8_minuteWithout_0 : uD 1 cX8_minuteWithout 0 (.aload_n 0) 1 := ⟨by decide +kernel, rfl⟩
theorem dX8_minuteWithout_1 : uD 1 cX8_minuteWithout 1 (.aload_n 0) 2 := ⟨by decide +kernel, rfl⟩
theorem dX8_minuteWithout_2 : uD 3 cX8_minuteWithout 2 (.getfield 7) 5 := ⟨by decide +kernel, rfl⟩
theorem dX8_minuteWithout_5 : uD 1 cX8_minuteWithout 5 (.iconst 3) 6 := ⟨by decide +kernel, rfl⟩
theorem dX8_minuteWithout_6 : uD 1 cX8_minuteWithout 6 (.iaload) 7 := ⟨by decide +kernel, rfl⟩
theorem dX8_minuteWithout_7 : uD 1 cX8_minuteWithout 7 (.aload_n 0) 8 := ⟨by decide +kernel, rfl⟩
theorem dX8_minuteWithout_8 : uD 3 cX8_minuteWithout 8 (.getfield 7) 11 := ⟨by decide +kernel, rfl⟩
theorem dX8_minuteWithout_11 : uD 1 cX8_minuteWithout 11 (.iconst 1) 12 := ⟨by decide +kernel, rfl⟩
theorem dX8_minuteWithout_12 : uD 1 cX8_minuteWithout 12 (.iaload) 13 := ⟨by decide +kernel, rfl⟩
theorem dX8_minuteWithout_13 : uJ cX8_minuteWithout 13 (fun o => .if_icmp .ge o) 25 16 := ⟨12, by decide +kernel, by decide, rfl⟩
theorem dX8_minuteWithout_16 : uD 1 cX8_minuteWithout 16 (.aload_n 0) 17 := ⟨by decide +kernel, rfl⟩
theorem dX8_minuteWithout_17 : uD 3 cX8_minuteWithout 17 (.getfield 7) 20 := ⟨by decide +kernel, rfl⟩
theorem dX8_minuteWithout_20 : uD 1 cX8_minuteWithout 20 (.iconst 3) 21 := ⟨by decide +kernel, rfl⟩
theorem dX8_minuteWithout_21 : uD 1 cX8_minuteWithout 21 (.iaload) 22 := ⟨by decide +kernel, rfl⟩
theorem dX8_minuteWithout_22 : uJ cX8_minuteWithout 22 (fun o => .goto o) 31 25 := ⟨9, by decide +kernel, by decide, rfl⟩
theorem dX8_minuteWithout_25 : uD 1 cX8_minuteWithout 25 (.aload_n 0) 26 := ⟨by decide +kernel, rfl⟩
theorem dX8_minuteWithout_26 : uD 3 cX8_minuteWithout 26 (.getfield 7) 29 := ⟨by decide +kernel, rfl⟩
theorem dX8_minuteWithout_29 : uD 1 cX8_minuteWithout 29 (.iconst 1) 30 := ⟨by decide +kernel, rfl⟩
theorem dX8_minuteWithout_30 : uD 1 cX8_minuteWithout 30 (.iaload) 31 := ⟨by decide +kernel, rfl⟩
theorem dX8_minuteWithout_31 : uD 3 cX8_minuteWithout 31 (.invokevirtual 215) 34 := ⟨by decide +kernel, rfl⟩
theorem dX8_minuteWithout_34 : uD 1 cX8_minuteWithout 34 (.return_) 35 := ⟨by decide +kernel, rfl⟩
theorem dX8_advance_0 : uD 1 cX8_advance 0 (.aload_n 0) 1 := ⟨by decide +kernel, rfl⟩
theorem dX8_advance_1 : uD 1 cX8_advance 1 (.iconst 0) 2 := ⟨by decide +kernel, rfl⟩
theorem dX8_advance_2 : uD 3 cX8_advance 2 (.putfield 49) 5 := ⟨by decide +kernel, rfl⟩
theorem dX8_advance_5 : uD 1 cX8_advance 5 (.aload_n 0) 6 := ⟨by decide +kernel, rfl⟩
theorem dX8_advance_6 : uD 1 cX8_advance 6 (.iload_n 1) 7 := ⟨by decide +kernel, rfl⟩
theorem dX8_advance_7 : uD 1 cX8_advance 7 (.iconst 1) 8 := ⟨by decide +kernel, rfl⟩
theorem dX8_advance_8 : uD 3 cX8_advance 8 (.sipush 1000) 11 := ⟨by decide +kernel, rfl⟩
theorem dX8_advance_11 : uD 3 cX8_advance 11 (.invokestatic 59) 14 := ⟨by decide +kernel, rfl⟩
theorem dX8_advance_14 : uD 1 cX8_advance 14 (.iconst 1) 15 := ⟨by decide +kernel, rfl⟩
theorem dX8_advance_15 : uD 3 cX8_advance 15 (.invokevirtual 55) 18 := ⟨by decide +kernel, rfl⟩
theorem dX8_advance_18 : uJ cX8_advance 18 (fun o => .ifCond .ne o) 23 21 := ⟨5, by decide +kernel, by decide, rfl⟩
theorem dX8_advance_21 : uD 1 cX8_advance 21 (.iconst 0) 22 := ⟨by decide +kernel, rfl⟩
theorem dX8_advance_22 : uD 1 cX8_advance 22 (.ireturn) 23 := ⟨by decide +kernel, rfl⟩
theorem dX8_advance_23 : uD 1 cX8_advance 23 (.iconst 0) 24 := ⟨by decide +kernel, rfl⟩
theorem dX8_advance_24 : uD 1 cX8_advance 24 (.istore_n 2) 25 := ⟨by decide +kernel, rfl⟩
theorem dX8_advance_25 : uD 1 cX8_advance 25 (.iconst 0) 26 := ⟨by decide +kernel, rfl⟩
theorem dX8_advance_26 : uD 1 cX8_advance 26 (.istore_n 3) 27 := ⟨by decide +kernel, rfl⟩
theorem dX8_advance_27 : uD 1 cX8_advance 27 (.iload_n 3) 28 := ⟨by decide +kernel, rfl⟩
theorem dX8_advance_28 : uD 1 cX8_advance 28 (.iload_n 1) 29 := ⟨by decide +kernel, rfl⟩
theorem dX8_advance_29 : uJ cX8_advance 29 (fun o => .if_icmp .ge o) 176 32 := ⟨147, by decide +kernel, by decide, rfl⟩
theorem dX8_advance_32 : uD 1 cX8_advance 32 (.aload_n 0) 33 := ⟨by decide +kernel, rfl⟩
theorem dX8_advance_33 : uD 3 cX8_advance 33 (.getfield 7) 36 := ⟨by decide +kernel, rfl⟩
theorem dX8_advance_36 : uD 2 cX8_advance 36 (.bipush 26) 38 := ⟨by decide +kernel, rfl⟩
theorem dX8_advance_38 : uD 1 cX8_advance 38 (.dup2) 39 := ⟨by decide +kernel, rfl⟩
theorem dX8_advance_39 : uD 1 cX8_advance 39 (.iaload) 40 := ⟨by decide +kernel, rfl⟩
theorem dX8_advance_40 : uD 1 cX8_advance 40 (.iconst 1) 41 := ⟨by decide +kernel, rfl⟩
theorem dX8_advance_41 : uD 1 cX8_advance 41 (.iadd) 42 := ⟨by decide +kernel, rfl⟩
theorem dX8_advance_42 : uD 1 cX8_advance 42 (.iastore) 43 := ⟨by decide +kernel, rfl⟩
theorem dX8_advance_43 : uD 1 cX8_advance 43 (.aload_n 0) 44 := ⟨by decide +kernel, rfl⟩
theorem dX8_advance_44 : uD 3 cX8_advance 44 (.getfield 7) 47 := ⟨by decide +kernel, rfl⟩
theorem dX8_advance_47 : uD 2 cX8_advance 47 (.bipush 27) 49 := ⟨by decide +kernel, rfl⟩
theorem dX8_advance_49 : uD 1 cX8_advance 49 (.iaload) 50 := ⟨by decide +kernel, rfl⟩
theorem dX8_advance_50 : uD 1 cX8_advance 50 (.iconst 1) 51 := ⟨by decide +kernel, rfl⟩
theorem dX8_advance_51 : uJ cX8_advance 51 (fun o => .if_icmp .ne o) 107 54 := ⟨56, by decide +kernel, by decide, rfl⟩
theorem dX8_advance_54 : uD 1 cX8_advance 54 (.aload_n 0) 55 := ⟨by decide +kernel, rfl⟩
theorem dX8_advance_55 : uD 3 cX8_advance 55 (.getfield 7) 58 := ⟨by decide +kernel, rfl⟩
theorem dX8_advance_58 : uD 1 cX8_advance 58 (.iconst 1) 59 := ⟨by decide +kernel, rfl⟩
theorem dX8_advance_59 : uD 1 cX8_advance 59 (.aload_n 0) 60 := ⟨by decide +kernel, rfl⟩
theorem dX8_advance_60 : uD 3 cX8_advance 60 (.getfield 7) 63 := ⟨by decide +kernel, rfl⟩
theorem dX8_advance_63 : uD 1 cX8_advance 63 (.iconst 1) 64 := ⟨by decide +kernel, rfl⟩
theorem dX8_advance_64 : uD 1 cX8_advance 64 (.iaload) 65 := ⟨by decide +kernel, rfl⟩
theorem dX8_advance_65 : uD 1 cX8_advance 65 (.aload_n 0) 66 := ⟨by decide +kernel, rfl⟩
theorem dX8_advance_66 : uD 3 cX8_advance 66 (.getfield 7) 69 := ⟨by decide +kernel, rfl⟩
theorem dX8_advance_69 : uD 1 cX8_advance 69 (.iconst 2) 70 := ⟨by decide +kernel, rfl⟩
theorem dX8_advance_70 : uD 1 cX8_advance 70 (.iaload) 71 := ⟨by decide +kernel, rfl⟩
theorem dX8_advance_71 : uD 1 cX8_advance 71 (.iadd) 72 := ⟨by decide +kernel, rfl⟩
theorem dX8_advance_72 : uD 1 cX8_advance 72 (.aload_n 0) 73 := ⟨by decide +kernel, rfl⟩
theorem dX8_advance_73 : uD 3 cX8_advance 73 (.getfield 7) 76 := ⟨by decide +kernel, rfl⟩
theorem dX8_advance_76 : uD 1 cX8_advance 76 (.iconst 0) 77 := ⟨by decide +kernel, rfl⟩
theorem dX8_advance_77 : uD 1 cX8_advance 77 (.iaload) 78 := ⟨by decide +kernel, rfl⟩
theorem dX8_advance_78 : uJ cX8_advance 78 (fun o => .if_icmp .ge o) 97 81 := ⟨19, by decide +kernel, by decide, rfl⟩
theorem dX8_advance_81 : uD 1 cX8_advance 81 (.aload_n 0) 82 := ⟨by decide +kernel, rfl⟩
theorem dX8_advance_82 : uD 3 cX8_advance 82 (.getfield 7) 85 := ⟨by decide +kernel, rfl⟩
theorem dX8_advance_85 : uD 1 cX8_advance 85 (.iconst 1) 86 := ⟨by decide +kernel, rfl⟩
theorem dX8_advance_86 : uD 1 cX8_advance 86 (.iaload) 87 := ⟨by decide +kernel, rfl⟩
theorem dX8_advance_87 : uD 1 cX8_advance 87 (.aload_n 0) 88 := ⟨by decide +kernel, rfl⟩
theorem dX8_advance_88 : uD 3 cX8_advance 88 (.getfield 7) 91 := ⟨by decide +kernel, rfl⟩
theorem dX8_advance_91 : uD 1 cX8_advance 91 (.iconst 2) 92 := ⟨by decide +kernel, rfl⟩
theorem dX8_advance_92 : uD 1 cX8_advance 92 (.iaload) 93 := ⟨by decide +kernel, rfl⟩
theorem dX8_advance_93 : uD 1 cX8_advance 93 (.iadd) 94 := ⟨by decide +kernel, rfl⟩
theorem dX8_advance_94 : uJ cX8_advance 94 (fun o => .goto o) 103 97 := ⟨9, by decide +kernel, by decide, rfl⟩
theorem dX8_advance_97 : uD 1 cX8_advance 97 (.aload_n 0) 98 := ⟨by decide +kernel, rfl⟩
theorem dX8_advance_98 : uD 3 cX8_advance 98 (.getfield 7) 101 := ⟨by decide +kernel, rfl⟩
theorem dX8_advance_101 : uD 1 cX8_advance 101 (.iconst 0) 102 := ⟨by decide +kernel, rfl⟩
theorem dX8_advance_102 : uD 1 cX8_advance 102 (.iaload) 103 := ⟨by decide +kernel, rfl⟩
theorem dX8_advance_103 : uD 1 cX8_advance 103 (.iastore) 104 := ⟨by decide +kernel, rfl⟩
theorem dX8_advance_104 : uJ cX8_advance 104 (fun o => .goto o) 111 107 := ⟨7, by decide +kernel, by decide, rfl⟩
theorem dX8_advance_107 : uD 1 cX8_advance 107 (.aload_n 0) 108 := ⟨by decide +kernel, rfl⟩
theorem dX8_advance_108 : uD 3 cX8_advance 108 (.invokevirtual 218) 111 := ⟨by decide +kernel, rfl⟩
theorem dX8_advance_111 : uD 1 cX8_advance 111 (.aload_n 0) 112 := ⟨by decide +kernel, rfl⟩
theorem dX8_advance_112 : uD 3 cX8_advance 112 (.getfield 7) 115 := ⟨by decide +kernel, rfl⟩
theorem dX8_advance_115 : uD 2 cX8_advance 115 (.bipush 27) 117 := ⟨by decide +kernel, rfl⟩
theorem dX8_advance_117 : uD 1 cX8_advance 117 (.iaload) 118 := ⟨by decide +kernel, rfl⟩
theorem dX8_advance_118 : uD 1 cX8_advance 118 (.iconst 1) 119 := ⟨by decide +kernel, rfl⟩
theorem dX8_advance_119 : uJ cX8_advance 119 (fun o => .if_icmp .eq o) 170 122 := ⟨51, by decide +kernel, by decide, rfl⟩
theorem dX8_advance_122 : uD 1 cX8_advance 122 (.aload_n 0) 123 := ⟨by decide +kernel, rfl⟩
theorem dX8_advance_123 : uD 3 cX8_advance 123 (.getfield 7) 126 := ⟨by decide +kernel, rfl⟩
theorem dX8_advance_126 : uD 1 cX8_advance 126 (.iconst 1) 127 := ⟨by decide +kernel, rfl⟩
theorem dX8_advance_127 : uD 1 cX8_advance 127 (.iaload) 128 := ⟨by decide +kernel, rfl⟩
theorem dX8_advance_128 : uJ cX8_advance 128 (fun o => .ifCond .le o) 134 131 := ⟨6, by decide +kernel, by decide, rfl⟩
theorem dX8_advance_131 : uJ cX8_advance 131 (fun o => .goto o) 170 134 := ⟨39, by decide +kernel, by decide, rfl⟩
theorem dX8_advance_134 : uD 1 cX8_advance 134 (.iload_n 2) 135 := ⟨by decide +kernel, rfl⟩
theorem dX8_advance_135 : uD 1 cX8_advance 135 (.aload_n 0) 136 := ⟨by decide +kernel, rfl⟩
theorem dX8_advance_136 : uD 1 cX8_advance 136 (.aload_n 0) 137 := ⟨by decide +kernel, rfl⟩
theorem dX8_advance_137 : uD 3 cX8_advance 137 (.invokevirtual 221) 140 := ⟨by decide +kernel, rfl⟩
theorem dX8_advance_140 : uD 3 cX8_advance 140 (.invokevirtual 187) 143 := ⟨by decide +kernel, rfl⟩
theorem dX8_advance_143 : uD 1 cX8_advance 143 (.iadd) 144 := ⟨by decide +kernel, rfl⟩
theorem dX8_advance_144 : uD 1 cX8_advance 144 (.istore_n 2) 145 := ⟨by decide +kernel, rfl⟩
theorem dX8_advance_145 : uD 1 cX8_advance 145 (.aload_n 0) 146 := ⟨by decide +kernel, rfl⟩
theorem dX8_advance_146 : uD 3 cX8_advance 146 (.getfield 7) 149 := ⟨by decide +kernel, rfl⟩
theorem dX8_advance_149 : uD 2 cX8_advance 149 (.bipush 32) 151 := ⟨by decide +kernel, rfl⟩
theorem dX8_advance_151 : uD 1 cX8_advance 151 (.dup2) 152 := ⟨by decide +kernel, rfl⟩
theorem dX8_advance_152 : uD 1 cX8_advance 152 (.iaload) 153 := ⟨by decide +kernel, rfl⟩
theorem dX8_advance_153 : uD 1 cX8_advance 153 (.aload_n 0) 154 := ⟨by decide +kernel, rfl⟩
theorem dX8_advance_154 : uD 3 cX8_advance 154 (.getfield 7) 157 := ⟨by decide +kernel, rfl⟩
theorem dX8_advance_157 : uD 2 cX8_advance 157 (.bipush 36) 159 := ⟨by decide +kernel, rfl⟩
theorem dX8_advance_159 : uD 1 cX8_advance 159 (.iaload) 160 := ⟨by decide +kernel, rfl⟩
theorem dX8_advance_160 : uD 1 cX8_advance 160 (.iadd) 161 := ⟨by decide +kernel, rfl⟩
theorem dX8_advance_161 : uD 1 cX8_advance 161 (.iastore) 162 := ⟨by decide +kernel, rfl⟩
theorem dX8_advance_162 : uD 1 cX8_advance 162 (.aload_n 0) 163 := ⟨by decide +kernel, rfl⟩
theorem dX8_advance_163 : uD 3 cX8_advance 163 (.getfield 7) 166 := ⟨by decide +kernel, rfl⟩
theorem dX8_advance_166 : uD 2 cX8_advance 166 (.bipush 36) 168 := ⟨by decide +kernel, rfl⟩
theorem dX8_advance_168 : uD 1 cX8_advance 168 (.iconst 0) 169 := ⟨by decide +kernel, rfl⟩
theorem dX8_advance_169 : uD 1 cX8_advance 169 (.iastore) 170 := ⟨by decide +kernel, rfl⟩
theorem dX8_advance_170 : uD 3 cX8_advance 170 (.iinc 3 1) 173 := ⟨by decide +kernel, rfl⟩
theorem dX8_advance_173 : uJ cX8_advance 173 (fun o => .goto o) 27 176 := ⟨(-146), by decide +kernel, by decide, rfl⟩
theorem dX8_advance_176 : uD 1 cX8_advance 176 (.aload_n 0) 177 := ⟨by decide +kernel, rfl⟩
theorem dX8_advance_177 : uD 3 cX8_advance 177 (.getfield 7) 180 := ⟨by decide +kernel, rfl⟩
theorem dX8_advance_180 : uD 2 cX8_advance 180 (.bipush 34) 182 := ⟨by decide +kernel, rfl⟩
theorem dX8_advance_182 : uD 1 cX8_advance 182 (.dup2) 183 := ⟨by decide +kernel, rfl⟩
theorem dX8_advance_183 : uD 1 cX8_advance 183 (.iaload) 184 := ⟨by decide +kernel, rfl⟩
theorem dX8_advance_184 : uD 1 cX8_advance 184 (.iload_n 2) 185 := ⟨by decide +kernel, rfl⟩
theorem dX8_advance_185 : uD 1 cX8_advance 185 (.iadd) 186 := ⟨by decide +kernel, rfl⟩
theorem dX8_advance_186 : uD 1 cX8_advance 186 (.iastore) 187 := ⟨by decide +kernel, rfl⟩
theorem dX8_advance_187 : uD 1 cX8_advance 187 (.iload_n 2) 188 := ⟨by decide +kernel, rfl⟩
theorem dX8_advance_188 : uD 1 cX8_advance 188 (.ireturn) 189 := ⟨by decide +kernel, rfl⟩
theorem dX8_flushes_0 : uD 1 cX8_flushes 0 (.aload_n 0) 1 := ⟨by decide +kernel, rfl⟩
theorem dX8_flushes_1 : uD 1 cX8_flushes 1 (.iload_n 1) 2 := ⟨by decide +kernel, rfl⟩
theorem dX8_flushes_2 : uD 3 cX8_flushes 2 (.invokevirtual 187) 5 := ⟨by decide +kernel, rfl⟩
theorem dX8_flushes_5 : uD 1 cX8_flushes 5 (.istore_n 2) 6 := ⟨by decide +kernel, rfl⟩
theorem dX8_flushes_6 : uD 1 cX8_flushes 6 (.aload_n 0) 7 := ⟨by decide +kernel, rfl⟩
theorem dX8_flushes_7 : uD 1 cX8_flushes 7 (.aload_n 0) 8 := ⟨by decide +kernel, rfl⟩
theorem dX8_flushes_8 : uD 1 cX8_flushes 8 (.iload_n 1) 9 := ⟨by decide +kernel, rfl⟩
theorem dX8_flushes_9 : uD 3 cX8_flushes 9 (.invokevirtual 175) 12 := ⟨by decide +kernel, rfl⟩
theorem dX8_flushes_12 : uD 3 cX8_flushes 12 (.invokevirtual 215) 15 := ⟨by decide +kernel, rfl⟩
theorem dX8_flushes_15 : uD 1 cX8_flushes 15 (.aload_n 0) 16 := ⟨by decide +kernel, rfl⟩
theorem dX8_flushes_16 : uD 3 cX8_flushes 16 (.getfield 7) 19 := ⟨by decide +kernel, rfl⟩
theorem dX8_flushes_19 : uD 2 cX8_flushes 19 (.bipush 31) 21 := ⟨by decide +kernel, rfl⟩
theorem dX8_flushes_21 : uD 1 cX8_flushes 21 (.dup2) 22 := ⟨by decide +kernel, rfl⟩
theorem dX8_flushes_22 : uD 1 cX8_flushes 22 (.iaload) 23 := ⟨by decide +kernel, rfl⟩
theorem dX8_flushes_23 : uD 1 cX8_flushes 23 (.iload_n 1) 24 := ⟨by decide +kernel, rfl⟩
theorem dX8_flushes_24 : uD 3 cX8_flushes 24 (.invokestatic 184) 27 := ⟨by decide +kernel, rfl⟩
theorem dX8_flushes_27 : uD 1 cX8_flushes 27 (.iadd) 28 := ⟨by decide +kernel, rfl⟩
theorem dX8_flushes_28 : uD 1 cX8_flushes 28 (.iastore) 29 := ⟨by decide +kernel, rfl⟩
theorem dX8_flushes_29 : uD 1 cX8_flushes 29 (.aload_n 0) 30 := ⟨by decide +kernel, rfl⟩
theorem dX8_flushes_30 : uD 3 cX8_flushes 30 (.getfield 7) 33 := ⟨by decide +kernel, rfl⟩
theorem dX8_flushes_33 : uD 2 cX8_flushes 33 (.bipush 33) 35 := ⟨by decide +kernel, rfl⟩
theorem dX8_flushes_35 : uD 1 cX8_flushes 35 (.dup2) 36 := ⟨by decide +kernel, rfl⟩
theorem dX8_flushes_36 : uD 1 cX8_flushes 36 (.iaload) 37 := ⟨by decide +kernel, rfl⟩
theorem dX8_flushes_37 : uD 1 cX8_flushes 37 (.iload_n 2) 38 := ⟨by decide +kernel, rfl⟩
theorem dX8_flushes_38 : uD 1 cX8_flushes 38 (.iadd) 39 := ⟨by decide +kernel, rfl⟩
theorem dX8_flushes_39 : uD 1 cX8_flushes 39 (.iastore) 40 := ⟨by decide +kernel, rfl⟩
theorem dX8_flushes_40 : uD 1 cX8_flushes 40 (.aload_n 0) 41 := ⟨by decide +kernel, rfl⟩
theorem dX8_flushes_41 : uD 1 cX8_flushes 41 (.iload_n 1) 42 := ⟨by decide +kernel, rfl⟩
theorem dX8_flushes_42 : uD 3 cX8_flushes 42 (.invokevirtual 212) 45 := ⟨by decide +kernel, rfl⟩
theorem dX8_flushes_45 : uD 1 cX8_flushes 45 (.iload_n 2) 46 := ⟨by decide +kernel, rfl⟩
theorem dX8_flushes_46 : uD 1 cX8_flushes 46 (.ireturn) 47 := ⟨by decide +kernel, rfl⟩
theorem dX8_flush_0 : uD 1 cX8_flush 0 (.aload_n 0) 1 := ⟨by decide +kernel, rfl⟩
theorem dX8_flush_1 : uD 1 cX8_flush 1 (.iconst 0) 2 := ⟨by decide +kernel, rfl⟩
theorem dX8_flush_2 : uD 3 cX8_flush 2 (.putfield 49) 5 := ⟨by decide +kernel, rfl⟩
theorem dX8_flush_5 : uD 1 cX8_flush 5 (.aload_n 0) 6 := ⟨by decide +kernel, rfl⟩
theorem dX8_flush_6 : uD 1 cX8_flush 6 (.aload_n 0) 7 := ⟨by decide +kernel, rfl⟩
theorem dX8_flush_7 : uD 3 cX8_flush 7 (.getfield 7) 10 := ⟨by decide +kernel, rfl⟩
theorem dX8_flush_10 : uD 2 cX8_flush 10 (.bipush 27) 12 := ⟨by decide +kernel, rfl⟩
theorem dX8_flush_12 : uD 1 cX8_flush 12 (.iaload) 13 := ⟨by decide +kernel, rfl⟩
theorem dX8_flush_13 : uJ cX8_flush 13 (fun o => .ifCond .ne o) 20 16 := ⟨7, by decide +kernel, by decide, rfl⟩
theorem dX8_flush_16 : uD 1 cX8_flush 16 (.iconst 1) 17 := ⟨by decide +kernel, rfl⟩
theorem dX8_flush_17 : uJ cX8_flush 17 (fun o => .goto o) 21 20 := ⟨4, by decide +kernel, by decide, rfl⟩
theorem dX8_flush_20 : uD 1 cX8_flush 20 (.iconst 0) 21 := ⟨by decide +kernel, rfl⟩
theorem dX8_flush_21 : uD 1 cX8_flush 21 (.iconst 1) 22 := ⟨by decide +kernel, rfl⟩
theorem dX8_flush_22 : uD 3 cX8_flush 22 (.invokevirtual 55) 25 := ⟨by decide +kernel, rfl⟩
theorem dX8_flush_25 : uJ cX8_flush 25 (fun o => .ifCond .ne o) 30 28 := ⟨5, by decide +kernel, by decide, rfl⟩
theorem dX8_flush_28 : uD 1 cX8_flush 28 (.iconst 0) 29 := ⟨by decide +kernel, rfl⟩
theorem dX8_flush_29 : uD 1 cX8_flush 29 (.ireturn) 30 := ⟨by decide +kernel, rfl⟩
theorem dX8_flush_30 : uD 1 cX8_flush 30 (.aload_n 0) 31 := ⟨by decide +kernel, rfl⟩
theorem dX8_flush_31 : uD 1 cX8_flush 31 (.aload_n 0) 32 := ⟨by decide +kernel, rfl⟩
theorem dX8_flush_32 : uD 3 cX8_flush 32 (.getfield 7) 35 := ⟨by decide +kernel, rfl⟩
theorem dX8_flush_35 : uD 2 cX8_flush 35 (.bipush 25) 37 := ⟨by decide +kernel, rfl⟩
theorem dX8_flush_37 : uD 1 cX8_flush 37 (.iaload) 38 := ⟨by decide +kernel, rfl⟩
theorem dX8_flush_38 : uD 3 cX8_flush 38 (.invokevirtual 224) 41 := ⟨by decide +kernel, rfl⟩
theorem dX8_flush_41 : uD 1 cX8_flush 41 (.aload_n 0) 42 := ⟨by decide +kernel, rfl⟩
theorem dX8_flush_42 : uD 1 cX8_flush 42 (.aload_n 0) 43 := ⟨by decide +kernel, rfl⟩
theorem dX8_flush_43 : uD 1 cX8_flush 43 (.aload_n 0) 44 := ⟨by decide +kernel, rfl⟩
theorem dX8_flush_44 : uD 3 cX8_flush 44 (.getfield 7) 47 := ⟨by decide +kernel, rfl⟩
theorem dX8_flush_47 : uD 1 cX8_flush 47 (.iconst 1) 48 := ⟨by decide +kernel, rfl⟩
theorem dX8_flush_48 : uD 1 cX8_flush 48 (.iaload) 49 := ⟨by decide +kernel, rfl⟩
theorem dX8_flush_49 : uD 3 cX8_flush 49 (.invokevirtual 227) 52 := ⟨by decide +kernel, rfl⟩
theorem dX8_flush_52 : uD 3 cX8_flush 52 (.invokevirtual 230) 55 := ⟨by decide +kernel, rfl⟩
theorem dX8_flush_55 : uD 1 cX8_flush 55 (.ireturn) 56 := ⟨by decide +kernel, rfl⟩
theorem dX8_flushDevice_0 : uD 1 cX8_flushDevice 0 (.aload_n 0) 1 := ⟨by decide +kernel, rfl⟩
theorem dX8_flushDevice_1 : uD 1 cX8_flushDevice 1 (.iconst 0) 2 := ⟨by decide +kernel, rfl⟩
theorem dX8_flushDevice_2 : uD 3 cX8_flushDevice 2 (.putfield 49) 5 := ⟨by decide +kernel, rfl⟩
theorem dX8_flushDevice_5 : uD 1 cX8_flushDevice 5 (.aload_n 0) 6 := ⟨by decide +kernel, rfl⟩
theorem dX8_flushDevice_6 : uD 1 cX8_flushDevice 6 (.aload_n 0) 7 := ⟨by decide +kernel, rfl⟩
theorem dX8_flushDevice_7 : uD 1 cX8_flushDevice 7 (.iload_n 1) 8 := ⟨by decide +kernel, rfl⟩
theorem dX8_flushDevice_8 : uD 3 cX8_flushDevice 8 (.invokevirtual 178) 11 := ⟨by decide +kernel, rfl⟩
theorem dX8_flushDevice_11 : uD 1 cX8_flushDevice 11 (.iconst 1) 12 := ⟨by decide +kernel, rfl⟩
theorem dX8_flushDevice_12 : uD 3 cX8_flushDevice 12 (.invokevirtual 55) 15 := ⟨by decide +kernel, rfl⟩
theorem dX8_flushDevice_15 : uJ cX8_flushDevice 15 (fun o => .ifCond .eq o) 67 18 := ⟨52, by decide +kernel, by decide, rfl⟩
theorem dX8_flushDevice_18 : uD 1 cX8_flushDevice 18 (.aload_n 0) 19 := ⟨by decide +kernel, rfl⟩
theorem dX8_flushDevice_19 : uD 1 cX8_flushDevice 19 (.aload_n 0) 20 := ⟨by decide +kernel, rfl⟩
theorem dX8_flushDevice_20 : uD 3 cX8_flushDevice 20 (.getfield 7) 23 := ⟨by decide +kernel, rfl⟩
theorem dX8_flushDevice_23 : uD 2 cX8_flushDevice 23 (.bipush 27) 25 := ⟨by decide +kernel, rfl⟩
theorem dX8_flushDevice_25 : uD 1 cX8_flushDevice 25 (.iaload) 26 := ⟨by decide +kernel, rfl⟩
theorem dX8_flushDevice_26 : uJ cX8_flushDevice 26 (fun o => .ifCond .ne o) 59 29 := ⟨33, by decide +kernel, by decide, rfl⟩
theorem dX8_flushDevice_29 : uD 1 cX8_flushDevice 29 (.aload_n 0) 30 := ⟨by decide +kernel, rfl⟩
theorem dX8_flushDevice_30 : uD 1 cX8_flushDevice 30 (.iload_n 1) 31 := ⟨by decide +kernel, rfl⟩
theorem dX8_flushDevice_31 : uD 3 cX8_flushDevice 31 (.invokevirtual 169) 34 := ⟨by decide +kernel, rfl⟩
theorem dX8_flushDevice_34 : uJ cX8_flushDevice 34 (fun o => .ifCond .ne o) 59 37 := ⟨25, by decide +kernel, by decide, rfl⟩
theorem dX8_flushDevice_37 : uD 1 cX8_flushDevice 37 (.aload_n 0) 38 := ⟨by decide +kernel, rfl⟩
theorem dX8_flushDevice_38 : uD 1 cX8_flushDevice 38 (.aload_n 0) 39 := ⟨by decide +kernel, rfl⟩
theorem dX8_flushDevice_39 : uD 1 cX8_flushDevice 39 (.iload_n 1) 40 := ⟨by decide +kernel, rfl⟩
theorem dX8_flushDevice_40 : uD 3 cX8_flushDevice 40 (.invokevirtual 181) 43 := ⟨by decide +kernel, rfl⟩
theorem dX8_flushDevice_43 : uD 3 cX8_flushDevice 43 (.invokevirtual 175) 46 := ⟨by decide +kernel, rfl⟩
theorem dX8_flushDevice_46 : uD 1 cX8_flushDevice 46 (.aload_n 0) 47 := ⟨by decide +kernel, rfl⟩
theorem dX8_flushDevice_47 : uD 3 cX8_flushDevice 47 (.getfield 7) 50 := ⟨by decide +kernel, rfl⟩
theorem dX8_flushDevice_50 : uD 1 cX8_flushDevice 50 (.iconst 1) 51 := ⟨by decide +kernel, rfl⟩
theorem dX8_flushDevice_51 : uD 1 cX8_flushDevice 51 (.iaload) 52 := ⟨by decide +kernel, rfl⟩
theorem dX8_flushDevice_52 : uJ cX8_flushDevice 52 (fun o => .if_icmp .gt o) 59 55 := ⟨7, by decide +kernel, by decide, rfl⟩
theorem dX8_flushDevice_55 : uD 1 cX8_flushDevice 55 (.iconst 1) 56 := ⟨by decide +kernel, rfl⟩
theorem dX8_flushDevice_56 : uJ cX8_flushDevice 56 (fun o => .goto o) 60 59 := ⟨4, by decide +kernel, by decide, rfl⟩
theorem dX8_flushDevice_59 : uD 1 cX8_flushDevice 59 (.iconst 0) 60 := ⟨by decide +kernel, rfl⟩
theorem dX8_flushDevice_60 : uD 1 cX8_flushDevice 60 (.iconst 2) 61 := ⟨by decide +kernel, rfl⟩
theorem dX8_flushDevice_61 : uD 3 cX8_flushDevice 61 (.invokevirtual 55) 64 := ⟨by decide +kernel, rfl⟩
theorem dX8_flushDevice_64 : uJ cX8_flushDevice 64 (fun o => .ifCond .ne o) 69 67 := ⟨5, by decide +kernel, by decide, rfl⟩
theorem dX8_flushDevice_67 : uD 1 cX8_flushDevice 67 (.iconst 0) 68 := ⟨by decide +kernel, rfl⟩
theorem dX8_flushDevice_68 : uD 1 cX8_flushDevice 68 (.ireturn) 69 := ⟨by decide +kernel, rfl⟩
theorem dX8_flushDevice_69 : uD 1 cX8_flushDevice 69 (.aload_n 0) 70 := ⟨by decide +kernel, rfl⟩
theorem dX8_flushDevice_70 : uD 1 cX8_flushDevice 70 (.aload_n 0) 71 := ⟨by decide +kernel, rfl⟩
theorem dX8_flushDevice_71 : uD 1 cX8_flushDevice 71 (.iload_n 1) 72 := ⟨by decide +kernel, rfl⟩
theorem dX8_flushDevice_72 : uD 3 cX8_flushDevice 72 (.invokevirtual 181) 75 := ⟨by decide +kernel, rfl⟩
theorem dX8_flushDevice_75 : uD 3 cX8_flushDevice 75 (.invokevirtual 230) 78 := ⟨by decide +kernel, rfl⟩
theorem dX8_flushDevice_78 : uD 1 cX8_flushDevice 78 (.ireturn) 79 := ⟨by decide +kernel, rfl⟩
theorem dX8_greater_0 : uD 1 cX8_greater 0 (.lload_n 0) 1 := ⟨by decide +kernel, rfl⟩
theorem dX8_greater_1 : uD 1 cX8_greater 1 (.lload_n 2) 2 := ⟨by decide +kernel, rfl⟩
theorem dX8_greater_2 : uD 1 cX8_greater 2 (.lcmp) 3 := ⟨by decide +kernel, rfl⟩
theorem dX8_greater_3 : uJ cX8_greater 3 (fun o => .ifCond .le o) 10 6 := ⟨7, by decide +kernel, by decide, rfl⟩
theorem dX8_greater_6 : uD 1 cX8_greater 6 (.lload_n 0) 7 := ⟨by decide +kernel, rfl⟩
theorem dX8_greater_7 : uJ cX8_greater 7 (fun o => .goto o) 11 10 := ⟨4, by decide +kernel, by decide, rfl⟩
theorem dX8_greater_10 : uD 1 cX8_greater 10 (.lload_n 2) 11 := ⟨by decide +kernel, rfl⟩
theorem dX8_greater_11 : uD 1 cX8_greater 11 (.lreturn) 12 := ⟨by decide +kernel, rfl⟩
theorem dX8_merges_0 : uD 1 cX8_merges 0 (.iconst 0) 1 := ⟨by decide +kernel, rfl⟩
theorem dX8_merges_1 : uD 1 cX8_merges 1 (.istore_n 1) 2 := ⟨by decide +kernel, rfl⟩
theorem dX8_merges_2 : uD 1 cX8_merges 2 (.iload_n 1) 3 := ⟨by decide +kernel, rfl⟩
theorem dX8_merges_3 : uD 3 cX8_merges 3 (.sipush 500) 6 := ⟨by decide +kernel, rfl⟩
theorem dX8_merges_6 : uJ cX8_merges 6 (fun o => .if_icmp .gt o) 83 9 := ⟨77, by decide +kernel, by decide, rfl⟩
theorem dX8_merges_9 : uD 1 cX8_merges 9 (.aload_n 0) 10 := ⟨by decide +kernel, rfl⟩
theorem dX8_merges_10 : uD 3 cX8_merges 10 (.getfield 33) 13 := ⟨by decide +kernel, rfl⟩
theorem dX8_merges_13 : uD 1 cX8_merges 13 (.iconst 3) 14 := ⟨by decide +kernel, rfl⟩
theorem dX8_merges_14 : uD 1 cX8_merges 14 (.iload_n 1) 15 := ⟨by decide +kernel, rfl⟩
theorem dX8_merges_15 : uD 1 cX8_merges 15 (.imul) 16 := ⟨by decide +kernel, rfl⟩
theorem dX8_merges_16 : uD 1 cX8_merges 16 (.aload_n 0) 17 := ⟨by decide +kernel, rfl⟩
theorem dX8_merges_17 : uD 3 cX8_merges 17 (.getfield 33) 20 := ⟨by decide +kernel, rfl⟩
theorem dX8_merges_20 : uD 1 cX8_merges 20 (.iconst 3) 21 := ⟨by decide +kernel, rfl⟩
theorem dX8_merges_21 : uD 1 cX8_merges 21 (.iload_n 1) 22 := ⟨by decide +kernel, rfl⟩
theorem dX8_merges_22 : uD 1 cX8_merges 22 (.imul) 23 := ⟨by decide +kernel, rfl⟩
theorem dX8_merges_23 : uD 1 cX8_merges 23 (.laload) 24 := ⟨by decide +kernel, rfl⟩
theorem dX8_merges_24 : uD 1 cX8_merges 24 (.aload_n 0) 25 := ⟨by decide +kernel, rfl⟩
theorem dX8_merges_25 : uD 3 cX8_merges 25 (.getfield 33) 28 := ⟨by decide +kernel, rfl⟩
theorem dX8_merges_28 : uD 1 cX8_merges 28 (.iconst 3) 29 := ⟨by decide +kernel, rfl⟩
theorem dX8_merges_29 : uD 1 cX8_merges 29 (.iload_n 1) 30 := ⟨by decide +kernel, rfl⟩
theorem dX8_merges_30 : uD 1 cX8_merges 30 (.imul) 31 := ⟨by decide +kernel, rfl⟩
theorem dX8_merges_31 : uD 1 cX8_merges 31 (.iconst 1) 32 := ⟨by decide +kernel, rfl⟩
theorem dX8_merges_32 : uD 1 cX8_merges 32 (.iadd) 33 := ⟨by decide +kernel, rfl⟩
theorem dX8_merges_33 : uD 1 cX8_merges 33 (.laload) 34 := ⟨by decide +kernel, rfl⟩
theorem dX8_merges_34 : uD 1 cX8_merges 34 (.aload_n 0) 35 := ⟨by decide +kernel, rfl⟩
theorem dX8_merges_35 : uD 3 cX8_merges 35 (.getfield 33) 38 := ⟨by decide +kernel, rfl⟩
theorem dX8_merges_38 : uD 1 cX8_merges 38 (.iconst 3) 39 := ⟨by decide +kernel, rfl⟩
theorem dX8_merges_39 : uD 1 cX8_merges 39 (.iload_n 1) 40 := ⟨by decide +kernel, rfl⟩
theorem dX8_merges_40 : uD 1 cX8_merges 40 (.imul) 41 := ⟨by decide +kernel, rfl⟩
theorem dX8_merges_41 : uD 1 cX8_merges 41 (.iconst 2) 42 := ⟨by decide +kernel, rfl⟩
theorem dX8_merges_42 : uD 1 cX8_merges 42 (.iadd) 43 := ⟨by decide +kernel, rfl⟩
theorem dX8_merges_43 : uD 1 cX8_merges 43 (.laload) 44 := ⟨by decide +kernel, rfl⟩
theorem dX8_merges_44 : uD 3 cX8_merges 44 (.invokestatic 233) 47 := ⟨by decide +kernel, rfl⟩
theorem dX8_merges_47 : uD 3 cX8_merges 47 (.invokestatic 233) 50 := ⟨by decide +kernel, rfl⟩
theorem dX8_merges_50 : uD 1 cX8_merges 50 (.lastore) 51 := ⟨by decide +kernel, rfl⟩
theorem dX8_merges_51 : uD 1 cX8_merges 51 (.aload_n 0) 52 := ⟨by decide +kernel, rfl⟩
theorem dX8_merges_52 : uD 3 cX8_merges 52 (.getfield 33) 55 := ⟨by decide +kernel, rfl⟩
theorem dX8_merges_55 : uD 1 cX8_merges 55 (.iconst 3) 56 := ⟨by decide +kernel, rfl⟩
theorem dX8_merges_56 : uD 1 cX8_merges 56 (.iload_n 1) 57 := ⟨by decide +kernel, rfl⟩
theorem dX8_merges_57 : uD 1 cX8_merges 57 (.imul) 58 := ⟨by decide +kernel, rfl⟩
theorem dX8_merges_58 : uD 1 cX8_merges 58 (.iconst 1) 59 := ⟨by decide +kernel, rfl⟩
theorem dX8_merges_59 : uD 1 cX8_merges 59 (.iadd) 60 := ⟨by decide +kernel, rfl⟩
theorem dX8_merges_60 : uD 3 cX8_merges 60 (.ldc2_w 237) 63 := ⟨by decide +kernel, rfl⟩
theorem dX8_merges_63 : uD 1 cX8_merges 63 (.lastore) 64 := ⟨by decide +kernel, rfl⟩
theorem dX8_merges_64 : uD 1 cX8_merges 64 (.aload_n 0) 65 := ⟨by decide +kernel, rfl⟩
theorem dX8_merges_65 : uD 3 cX8_merges 65 (.getfield 33) 68 := ⟨by decide +kernel, rfl⟩
theorem dX8_merges_68 : uD 1 cX8_merges 68 (.iconst 3) 69 := ⟨by decide +kernel, rfl⟩
theorem dX8_merges_69 : uD 1 cX8_merges 69 (.iload_n 1) 70 := ⟨by decide +kernel, rfl⟩
theorem dX8_merges_70 : uD 1 cX8_merges 70 (.imul) 71 := ⟨by decide +kernel, rfl⟩
theorem dX8_merges_71 : uD 1 cX8_merges 71 (.iconst 2) 72 := ⟨by decide +kernel, rfl⟩
theorem dX8_merges_72 : uD 1 cX8_merges 72 (.iadd) 73 := ⟨by decide +kernel, rfl⟩
theorem dX8_merges_73 : uD 3 cX8_merges 73 (.ldc2_w 237) 76 := ⟨by decide +kernel, rfl⟩
theorem dX8_merges_76 : uD 1 cX8_merges 76 (.lastore) 77 := ⟨by decide +kernel, rfl⟩
theorem dX8_merges_77 : uD 3 cX8_merges 77 (.iinc 1 1) 80 := ⟨by decide +kernel, rfl⟩
theorem dX8_merges_80 : uJ cX8_merges 80 (fun o => .goto o) 2 83 := ⟨(-78), by decide +kernel, by decide, rfl⟩
theorem dX8_merges_83 : uD 1 cX8_merges 83 (.return_) 84 := ⟨by decide +kernel, rfl⟩
theorem dX8_takesBlock_0 : uD 2 cX8_takesBlock 0 (.bipush 10) 2 := ⟨by decide +kernel, rfl⟩
theorem dX8_takesBlock_2 : uD 1 cX8_takesBlock 2 (.iconst 3) 3 := ⟨by decide +kernel, rfl⟩
theorem dX8_takesBlock_3 : uD 1 cX8_takesBlock 3 (.aload_n 0) 4 := ⟨by decide +kernel, rfl⟩
theorem dX8_takesBlock_4 : uD 1 cX8_takesBlock 4 (.iload_n 1) 5 := ⟨by decide +kernel, rfl⟩
theorem dX8_takesBlock_5 : uD 3 cX8_takesBlock 5 (.invokevirtual 166) 8 := ⟨by decide +kernel, rfl⟩
theorem dX8_takesBlock_8 : uD 1 cX8_takesBlock 8 (.imul) 9 := ⟨by decide +kernel, rfl⟩
theorem dX8_takesBlock_9 : uD 1 cX8_takesBlock 9 (.iadd) 10 := ⟨by decide +kernel, rfl⟩
theorem dX8_takesBlock_10 : uD 1 cX8_takesBlock 10 (.istore_n 3) 11 := ⟨by decide +kernel, rfl⟩
theorem dX8_takesBlock_11 : uD 1 cX8_takesBlock 11 (.aload_n 0) 12 := ⟨by decide +kernel, rfl⟩
theorem dX8_takesBlock_12 : uD 1 cX8_takesBlock 12 (.iload_n 1) 13 := ⟨by decide +kernel, rfl⟩
theorem dX8_takesBlock_13 : uD 1 cX8_takesBlock 13 (.iconst 1) 14 := ⟨by decide +kernel, rfl⟩
theorem dX8_takesBlock_14 : uD 3 cX8_takesBlock 14 (.invokevirtual 160) 17 := ⟨by decide +kernel, rfl⟩
theorem dX8_takesBlock_17 : uD 1 cX8_takesBlock 17 (.i2l) 18 := ⟨by decide +kernel, rfl⟩
theorem dX8_takesBlock_18 : uD 2 cX8_takesBlock 18 (.bipush 24) 20 := ⟨by decide +kernel, rfl⟩
theorem dX8_takesBlock_20 : uD 1 cX8_takesBlock 20 (.lshl) 21 := ⟨by decide +kernel, rfl⟩
theorem dX8_takesBlock_21 : uD 1 cX8_takesBlock 21 (.lconst 1) 22 := ⟨by decide +kernel, rfl⟩
theorem dX8_takesBlock_22 : uD 1 cX8_takesBlock 22 (.iload_n 1) 23 := ⟨by decide +kernel, rfl⟩
theorem dX8_takesBlock_23 : uD 1 cX8_takesBlock 23 (.lshl) 24 := ⟨by decide +kernel, rfl⟩
theorem dX8_takesBlock_24 : uD 1 cX8_takesBlock 24 (.lsub) 25 := ⟨by decide +kernel, rfl⟩
theorem dX8_takesBlock_25 : uD 2 cX8_takesBlock 25 (.lstore 4) 27 := ⟨by decide +kernel, rfl⟩
theorem dX8_takesBlock_27 : uD 1 cX8_takesBlock 27 (.iconst 0) 28 := ⟨by decide +kernel, rfl⟩
theorem dX8_takesBlock_28 : uD 2 cX8_takesBlock 28 (.istore 6) 30 := ⟨by decide +kernel, rfl⟩
theorem dX8_takesBlock_30 : uD 2 cX8_takesBlock 30 (.iload 6) 32 := ⟨by decide +kernel, rfl⟩
theorem dX8_takesBlock_32 : uD 3 cX8_takesBlock 32 (.sipush 1503) 35 := ⟨by decide +kernel, rfl⟩
theorem dX8_takesBlock_35 : uJ cX8_takesBlock 35 (fun o => .if_icmp .ge o) 54 38 := ⟨19, by decide +kernel, by decide, rfl⟩
theorem dX8_takesBlock_38 : uD 1 cX8_takesBlock 38 (.aload_n 0) 39 := ⟨by decide +kernel, rfl⟩
theorem dX8_takesBlock_39 : uD 3 cX8_takesBlock 39 (.getfield 37) 42 := ⟨by decide +kernel, rfl⟩
theorem dX8_takesBlock_42 : uD 2 cX8_takesBlock 42 (.iload 6) 44 := ⟨by decide +kernel, rfl⟩
theorem dX8_takesBlock_44 : uD 3 cX8_takesBlock 44 (.ldc2_w 237) 47 := ⟨by decide +kernel, rfl⟩
theorem dX8_takesBlock_47 : uD 1 cX8_takesBlock 47 (.lastore) 48 := ⟨by decide +kernel, rfl⟩
theorem dX8_takesBlock_48 : uD 3 cX8_takesBlock 48 (.iinc 6 1) 51 := ⟨by decide +kernel, rfl⟩
theorem dX8_takesBlock_51 : uJ cX8_takesBlock 51 (fun o => .goto o) 30 54 := ⟨(-21), by decide +kernel, by decide, rfl⟩
theorem dX8_takesBlock_54 : uD 1 cX8_takesBlock 54 (.iconst 0) 55 := ⟨by decide +kernel, rfl⟩
theorem dX8_takesBlock_55 : uD 2 cX8_takesBlock 55 (.istore 6) 57 := ⟨by decide +kernel, rfl⟩
theorem dX8_takesBlock_57 : uD 2 cX8_takesBlock 57 (.iload 6) 59 := ⟨by decide +kernel, rfl⟩
theorem dX8_takesBlock_59 : uD 3 cX8_takesBlock 59 (.sipush 500) 62 := ⟨by decide +kernel, rfl⟩
theorem dX8_takesBlock_62 : uJ cX8_takesBlock 62 (fun o => .if_icmp .gt o) 290 65 := ⟨228, by decide +kernel, by decide, rfl⟩
theorem dX8_takesBlock_65 : uD 1 cX8_takesBlock 65 (.aload_n 0) 66 := ⟨by decide +kernel, rfl⟩
theorem dX8_takesBlock_66 : uD 3 cX8_takesBlock 66 (.getfield 37) 69 := ⟨by decide +kernel, rfl⟩
theorem dX8_takesBlock_69 : uD 1 cX8_takesBlock 69 (.iconst 3) 70 := ⟨by decide +kernel, rfl⟩
theorem dX8_takesBlock_70 : uD 2 cX8_takesBlock 70 (.iload 6) 72 := ⟨by decide +kernel, rfl⟩
theorem dX8_takesBlock_72 : uD 1 cX8_takesBlock 72 (.imul) 73 := ⟨by decide +kernel, rfl⟩
theorem dX8_takesBlock_73 : uD 1 cX8_takesBlock 73 (.aload_n 0) 74 := ⟨by decide +kernel, rfl⟩
theorem dX8_takesBlock_74 : uD 3 cX8_takesBlock 74 (.getfield 37) 77 := ⟨by decide +kernel, rfl⟩
theorem dX8_takesBlock_77 : uD 1 cX8_takesBlock 77 (.iconst 3) 78 := ⟨by decide +kernel, rfl⟩
theorem dX8_takesBlock_78 : uD 2 cX8_takesBlock 78 (.iload 6) 80 := ⟨by decide +kernel, rfl⟩
theorem dX8_takesBlock_80 : uD 1 cX8_takesBlock 80 (.imul) 81 := ⟨by decide +kernel, rfl⟩
theorem dX8_takesBlock_81 : uD 1 cX8_takesBlock 81 (.laload) 82 := ⟨by decide +kernel, rfl⟩
theorem dX8_takesBlock_82 : uD 1 cX8_takesBlock 82 (.aload_n 0) 83 := ⟨by decide +kernel, rfl⟩
theorem dX8_takesBlock_83 : uD 3 cX8_takesBlock 83 (.getfield 33) 86 := ⟨by decide +kernel, rfl⟩
theorem dX8_takesBlock_86 : uD 1 cX8_takesBlock 86 (.iconst 3) 87 := ⟨by decide +kernel, rfl⟩
theorem dX8_takesBlock_87 : uD 2 cX8_takesBlock 87 (.iload 6) 89 := ⟨by decide +kernel, rfl⟩
theorem dX8_takesBlock_89 : uD 1 cX8_takesBlock 89 (.imul) 90 := ⟨by decide +kernel, rfl⟩
theorem dX8_takesBlock_90 : uD 1 cX8_takesBlock 90 (.laload) 91 := ⟨by decide +kernel, rfl⟩
theorem dX8_takesBlock_91 : uD 3 cX8_takesBlock 91 (.invokestatic 233) 94 := ⟨by decide +kernel, rfl⟩
theorem dX8_takesBlock_94 : uD 1 cX8_takesBlock 94 (.lastore) 95 := ⟨by decide +kernel, rfl⟩
theorem dX8_takesBlock_95 : uD 1 cX8_takesBlock 95 (.aload_n 0) 96 := ⟨by decide +kernel, rfl⟩
theorem dX8_takesBlock_96 : uD 3 cX8_takesBlock 96 (.getfield 37) 99 := ⟨by decide +kernel, rfl⟩
theorem dX8_takesBlock_99 : uD 1 cX8_takesBlock 99 (.iconst 3) 100 := ⟨by decide +kernel, rfl⟩
theorem dX8_takesBlock_100 : uD 2 cX8_takesBlock 100 (.iload 6) 102 := ⟨by decide +kernel, rfl⟩
theorem dX8_takesBlock_102 : uD 1 cX8_takesBlock 102 (.imul) 103 := ⟨by decide +kernel, rfl⟩
theorem dX8_takesBlock_103 : uD 1 cX8_takesBlock 103 (.iconst 1) 104 := ⟨by decide +kernel, rfl⟩
theorem dX8_takesBlock_104 : uD 1 cX8_takesBlock 104 (.iadd) 105 := ⟨by decide +kernel, rfl⟩
theorem dX8_takesBlock_105 : uD 1 cX8_takesBlock 105 (.aload_n 0) 106 := ⟨by decide +kernel, rfl⟩
theorem dX8_takesBlock_106 : uD 3 cX8_takesBlock 106 (.getfield 37) 109 := ⟨by decide +kernel, rfl⟩
theorem dX8_takesBlock_109 : uD 1 cX8_takesBlock 109 (.iconst 3) 110 := ⟨by decide +kernel, rfl⟩
theorem dX8_takesBlock_110 : uD 2 cX8_takesBlock 110 (.iload 6) 112 := ⟨by decide +kernel, rfl⟩
theorem dX8_takesBlock_112 : uD 1 cX8_takesBlock 112 (.imul) 113 := ⟨by decide +kernel, rfl⟩
theorem dX8_takesBlock_113 : uD 1 cX8_takesBlock 113 (.iconst 1) 114 := ⟨by decide +kernel, rfl⟩
theorem dX8_takesBlock_114 : uD 1 cX8_takesBlock 114 (.iadd) 115 := ⟨by decide +kernel, rfl⟩
theorem dX8_takesBlock_115 : uD 1 cX8_takesBlock 115 (.laload) 116 := ⟨by decide +kernel, rfl⟩
theorem dX8_takesBlock_116 : uD 1 cX8_takesBlock 116 (.aload_n 0) 117 := ⟨by decide +kernel, rfl⟩
theorem dX8_takesBlock_117 : uD 3 cX8_takesBlock 117 (.getfield 33) 120 := ⟨by decide +kernel, rfl⟩
theorem dX8_takesBlock_120 : uD 1 cX8_takesBlock 120 (.iconst 3) 121 := ⟨by decide +kernel, rfl⟩
theorem dX8_takesBlock_121 : uD 2 cX8_takesBlock 121 (.iload 6) 123 := ⟨by decide +kernel, rfl⟩
theorem dX8_takesBlock_123 : uD 1 cX8_takesBlock 123 (.imul) 124 := ⟨by decide +kernel, rfl⟩
theorem dX8_takesBlock_124 : uD 1 cX8_takesBlock 124 (.iconst 1) 125 := ⟨by decide +kernel, rfl⟩
theorem dX8_takesBlock_125 : uD 1 cX8_takesBlock 125 (.iadd) 126 := ⟨by decide +kernel, rfl⟩
theorem dX8_takesBlock_126 : uD 1 cX8_takesBlock 126 (.laload) 127 := ⟨by decide +kernel, rfl⟩
theorem dX8_takesBlock_127 : uD 1 cX8_takesBlock 127 (.aload_n 0) 128 := ⟨by decide +kernel, rfl⟩
theorem dX8_takesBlock_128 : uD 3 cX8_takesBlock 128 (.getfield 33) 131 := ⟨by decide +kernel, rfl⟩
theorem dX8_takesBlock_131 : uD 1 cX8_takesBlock 131 (.iconst 3) 132 := ⟨by decide +kernel, rfl⟩
theorem dX8_takesBlock_132 : uD 2 cX8_takesBlock 132 (.iload 6) 134 := ⟨by decide +kernel, rfl⟩
theorem dX8_takesBlock_134 : uD 1 cX8_takesBlock 134 (.imul) 135 := ⟨by decide +kernel, rfl⟩
theorem dX8_takesBlock_135 : uD 1 cX8_takesBlock 135 (.iconst 2) 136 := ⟨by decide +kernel, rfl⟩
theorem dX8_takesBlock_136 : uD 1 cX8_takesBlock 136 (.iadd) 137 := ⟨by decide +kernel, rfl⟩
theorem dX8_takesBlock_137 : uD 1 cX8_takesBlock 137 (.laload) 138 := ⟨by decide +kernel, rfl⟩
theorem dX8_takesBlock_138 : uD 3 cX8_takesBlock 138 (.invokestatic 233) 141 := ⟨by decide +kernel, rfl⟩
theorem dX8_takesBlock_141 : uD 3 cX8_takesBlock 141 (.invokestatic 233) 144 := ⟨by decide +kernel, rfl⟩
theorem dX8_takesBlock_144 : uD 1 cX8_takesBlock 144 (.lastore) 145 := ⟨by decide +kernel, rfl⟩
theorem dX8_takesBlock_145 : uD 1 cX8_takesBlock 145 (.iconst 0) 146 := ⟨by decide +kernel, rfl⟩
theorem dX8_takesBlock_146 : uD 2 cX8_takesBlock 146 (.istore 7) 148 := ⟨by decide +kernel, rfl⟩
theorem dX8_takesBlock_148 : uD 2 cX8_takesBlock 148 (.iload 7) 150 := ⟨by decide +kernel, rfl⟩
theorem dX8_takesBlock_150 : uD 1 cX8_takesBlock 150 (.iconst 3) 151 := ⟨by decide +kernel, rfl⟩
theorem dX8_takesBlock_151 : uJ cX8_takesBlock 151 (fun o => .if_icmp .ge o) 284 154 := ⟨133, by decide +kernel, by decide, rfl⟩
theorem dX8_takesBlock_154 : uD 2 cX8_takesBlock 154 (.iload 6) 156 := ⟨by decide +kernel, rfl⟩
theorem dX8_takesBlock_156 : uD 1 cX8_takesBlock 156 (.aload_n 0) 157 := ⟨by decide +kernel, rfl⟩
theorem dX8_takesBlock_157 : uD 3 cX8_takesBlock 157 (.getfield 7) 160 := ⟨by decide +kernel, rfl⟩
theorem dX8_takesBlock_160 : uD 1 cX8_takesBlock 160 (.iload_n 3) 161 := ⟨by decide +kernel, rfl⟩
theorem dX8_takesBlock_161 : uD 1 cX8_takesBlock 161 (.iconst 2) 162 := ⟨by decide +kernel, rfl⟩
theorem dX8_takesBlock_162 : uD 1 cX8_takesBlock 162 (.iadd) 163 := ⟨by decide +kernel, rfl⟩
theorem dX8_takesBlock_163 : uD 1 cX8_takesBlock 163 (.iaload) 164 := ⟨by decide +kernel, rfl⟩
theorem dX8_takesBlock_164 : uD 1 cX8_takesBlock 164 (.iadd) 165 := ⟨by decide +kernel, rfl⟩
theorem dX8_takesBlock_165 : uD 2 cX8_takesBlock 165 (.iload 7) 167 := ⟨by decide +kernel, rfl⟩
theorem dX8_takesBlock_167 : uD 1 cX8_takesBlock 167 (.iconst 2) 168 := ⟨by decide +kernel, rfl⟩
theorem dX8_takesBlock_168 : uJ cX8_takesBlock 168 (fun o => .if_icmp .ne o) 179 171 := ⟨11, by decide +kernel, by decide, rfl⟩
theorem dX8_takesBlock_171 : uD 1 cX8_takesBlock 171 (.iload_n 2) 172 := ⟨by decide +kernel, rfl⟩
theorem dX8_takesBlock_172 : uJ cX8_takesBlock 172 (fun o => .ifCond .eq o) 179 175 := ⟨7, by decide +kernel, by decide, rfl⟩
theorem dX8_takesBlock_175 : uD 1 cX8_takesBlock 175 (.iconst 0) 176 := ⟨by decide +kernel, rfl⟩
theorem dX8_takesBlock_176 : uJ cX8_takesBlock 176 (fun o => .goto o) 187 179 := ⟨11, by decide +kernel, by decide, rfl⟩
theorem dX8_takesBlock_179 : uD 1 cX8_takesBlock 179 (.aload_n 0) 180 := ⟨by decide +kernel, rfl⟩
theorem dX8_takesBlock_180 : uD 3 cX8_takesBlock 180 (.getfield 7) 183 := ⟨by decide +kernel, rfl⟩
theorem dX8_takesBlock_183 : uD 1 cX8_takesBlock 183 (.iload_n 3) 184 := ⟨by decide +kernel, rfl⟩
theorem dX8_takesBlock_184 : uD 1 cX8_takesBlock 184 (.iconst 1) 185 := ⟨by decide +kernel, rfl⟩
theorem dX8_takesBlock_185 : uD 1 cX8_takesBlock 185 (.iadd) 186 := ⟨by decide +kernel, rfl⟩
theorem dX8_takesBlock_186 : uD 1 cX8_takesBlock 186 (.iaload) 187 := ⟨by decide +kernel, rfl⟩
theorem dX8_takesBlock_187 : uD 1 cX8_takesBlock 187 (.iadd) 188 := ⟨by decide +kernel, rfl⟩
theorem dX8_takesBlock_188 : uD 2 cX8_takesBlock 188 (.iload 7) 190 := ⟨by decide +kernel, rfl⟩
theorem dX8_takesBlock_190 : uJ cX8_takesBlock 190 (fun o => .ifCond .ne o) 204 193 := ⟨14, by decide +kernel, by decide, rfl⟩
theorem dX8_takesBlock_193 : uD 1 cX8_takesBlock 193 (.aload_n 0) 194 := ⟨by decide +kernel, rfl⟩
theorem dX8_takesBlock_194 : uD 3 cX8_takesBlock 194 (.getfield 7) 197 := ⟨by decide +kernel, rfl⟩
theorem dX8_takesBlock_197 : uD 1 cX8_takesBlock 197 (.iload_n 3) 198 := ⟨by decide +kernel, rfl⟩
theorem dX8_takesBlock_198 : uD 1 cX8_takesBlock 198 (.iconst 0) 199 := ⟨by decide +kernel, rfl⟩
theorem dX8_takesBlock_199 : uD 1 cX8_takesBlock 199 (.iadd) 200 := ⟨by decide +kernel, rfl⟩
theorem dX8_takesBlock_200 : uD 1 cX8_takesBlock 200 (.iaload) 201 := ⟨by decide +kernel, rfl⟩
theorem dX8_takesBlock_201 : uJ cX8_takesBlock 201 (fun o => .goto o) 205 204 := ⟨4, by decide +kernel, by decide, rfl⟩
theorem dX8_takesBlock_204 : uD 1 cX8_takesBlock 204 (.iconst 0) 205 := ⟨by decide +kernel, rfl⟩
theorem dX8_takesBlock_205 : uD 1 cX8_takesBlock 205 (.iadd) 206 := ⟨by decide +kernel, rfl⟩
theorem dX8_takesBlock_206 : uD 2 cX8_takesBlock 206 (.istore 8) 208 := ⟨by decide +kernel, rfl⟩
theorem dX8_takesBlock_208 : uD 1 cX8_takesBlock 208 (.aload_n 0) 209 := ⟨by decide +kernel, rfl⟩
theorem dX8_takesBlock_209 : uD 3 cX8_takesBlock 209 (.getfield 33) 212 := ⟨by decide +kernel, rfl⟩
theorem dX8_takesBlock_212 : uD 1 cX8_takesBlock 212 (.iconst 3) 213 := ⟨by decide +kernel, rfl⟩
theorem dX8_takesBlock_213 : uD 2 cX8_takesBlock 213 (.iload 6) 215 := ⟨by decide +kernel, rfl⟩
theorem dX8_takesBlock_215 : uD 1 cX8_takesBlock 215 (.imul) 216 := ⟨by decide +kernel, rfl⟩
theorem dX8_takesBlock_216 : uD 2 cX8_takesBlock 216 (.iload 7) 218 := ⟨by decide +kernel, rfl⟩
theorem dX8_takesBlock_218 : uD 1 cX8_takesBlock 218 (.iadd) 219 := ⟨by decide +kernel, rfl⟩
theorem dX8_takesBlock_219 : uD 1 cX8_takesBlock 219 (.laload) 220 := ⟨by decide +kernel, rfl⟩
theorem dX8_takesBlock_220 : uD 3 cX8_takesBlock 220 (.ldc2_w 237) 223 := ⟨by decide +kernel, rfl⟩
theorem dX8_takesBlock_223 : uD 1 cX8_takesBlock 223 (.lcmp) 224 := ⟨by decide +kernel, rfl⟩
theorem dX8_takesBlock_224 : uJ cX8_takesBlock 224 (fun o => .ifCond .eq o) 278 227 := ⟨54, by decide +kernel, by decide, rfl⟩
theorem dX8_takesBlock_227 : uD 2 cX8_takesBlock 227 (.iload 8) 229 := ⟨by decide +kernel, rfl⟩
theorem dX8_takesBlock_229 : uD 3 cX8_takesBlock 229 (.sipush 500) 232 := ⟨by decide +kernel, rfl⟩
theorem dX8_takesBlock_232 : uJ cX8_takesBlock 232 (fun o => .if_icmp .le o) 238 235 := ⟨6, by decide +kernel, by decide, rfl⟩
theorem dX8_takesBlock_235 : uJ cX8_takesBlock 235 (fun o => .goto o) 278 238 := ⟨43, by decide +kernel, by decide, rfl⟩
theorem dX8_takesBlock_238 : uD 1 cX8_takesBlock 238 (.aload_n 0) 239 := ⟨by decide +kernel, rfl⟩
theorem dX8_takesBlock_239 : uD 3 cX8_takesBlock 239 (.getfield 37) 242 := ⟨by decide +kernel, rfl⟩
theorem dX8_takesBlock_242 : uD 1 cX8_takesBlock 242 (.iconst 3) 243 := ⟨by decide +kernel, rfl⟩
theorem dX8_takesBlock_243 : uD 2 cX8_takesBlock 243 (.iload 8) 245 := ⟨by decide +kernel, rfl⟩
theorem dX8_takesBlock_245 : uD 1 cX8_takesBlock 245 (.imul) 246 := ⟨by decide +kernel, rfl⟩
theorem dX8_takesBlock_246 : uD 1 cX8_takesBlock 246 (.iconst 2) 247 := ⟨by decide +kernel, rfl⟩
theorem dX8_takesBlock_247 : uD 1 cX8_takesBlock 247 (.iadd) 248 := ⟨by decide +kernel, rfl⟩
theorem dX8_takesBlock_248 : uD 1 cX8_takesBlock 248 (.aload_n 0) 249 := ⟨by decide +kernel, rfl⟩
theorem dX8_takesBlock_249 : uD 3 cX8_takesBlock 249 (.getfield 37) 252 := ⟨by decide +kernel, rfl⟩
theorem dX8_takesBlock_252 : uD 1 cX8_takesBlock 252 (.iconst 3) 253 := ⟨by decide +kernel, rfl⟩
theorem dX8_takesBlock_253 : uD 2 cX8_takesBlock 253 (.iload 8) 255 := ⟨by decide +kernel, rfl⟩
theorem dX8_takesBlock_255 : uD 1 cX8_takesBlock 255 (.imul) 256 := ⟨by decide +kernel, rfl⟩
theorem dX8_takesBlock_256 : uD 1 cX8_takesBlock 256 (.iconst 2) 257 := ⟨by decide +kernel, rfl⟩
theorem dX8_takesBlock_257 : uD 1 cX8_takesBlock 257 (.iadd) 258 := ⟨by decide +kernel, rfl⟩
theorem dX8_takesBlock_258 : uD 1 cX8_takesBlock 258 (.laload) 259 := ⟨by decide +kernel, rfl⟩
theorem dX8_takesBlock_259 : uD 1 cX8_takesBlock 259 (.aload_n 0) 260 := ⟨by decide +kernel, rfl⟩
theorem dX8_takesBlock_260 : uD 3 cX8_takesBlock 260 (.getfield 33) 263 := ⟨by decide +kernel, rfl⟩
theorem dX8_takesBlock_263 : uD 1 cX8_takesBlock 263 (.iconst 3) 264 := ⟨by decide +kernel, rfl⟩
theorem dX8_takesBlock_264 : uD 2 cX8_takesBlock 264 (.iload 6) 266 := ⟨by decide +kernel, rfl⟩
theorem dX8_takesBlock_266 : uD 1 cX8_takesBlock 266 (.imul) 267 := ⟨by decide +kernel, rfl⟩
theorem dX8_takesBlock_267 : uD 2 cX8_takesBlock 267 (.iload 7) 269 := ⟨by decide +kernel, rfl⟩
theorem dX8_takesBlock_269 : uD 1 cX8_takesBlock 269 (.iadd) 270 := ⟨by decide +kernel, rfl⟩
theorem dX8_takesBlock_270 : uD 1 cX8_takesBlock 270 (.laload) 271 := ⟨by decide +kernel, rfl⟩
theorem dX8_takesBlock_271 : uD 2 cX8_takesBlock 271 (.lload 4) 273 := ⟨by decide +kernel, rfl⟩
theorem dX8_takesBlock_273 : uD 1 cX8_takesBlock 273 (.ladd) 274 := ⟨by decide +kernel, rfl⟩
theorem dX8_takesBlock_274 : uD 3 cX8_takesBlock 274 (.invokestatic 233) 277 := ⟨by decide +kernel, rfl⟩
theorem dX8_takesBlock_277 : uD 1 cX8_takesBlock 277 (.lastore) 278 := ⟨by decide +kernel, rfl⟩
theorem dX8_takesBlock_278 : uD 3 cX8_takesBlock 278 (.iinc 7 1) 281 := ⟨by decide +kernel, rfl⟩
theorem dX8_takesBlock_281 : uJ cX8_takesBlock 281 (fun o => .goto o) 148 284 := ⟨(-133), by decide +kernel, by decide, rfl⟩
theorem dX8_takesBlock_284 : uD 3 cX8_takesBlock 284 (.iinc 6 1) 287 := ⟨by decide +kernel, rfl⟩
theorem dX8_takesBlock_287 : uJ cX8_takesBlock 287 (fun o => .goto o) 57 290 := ⟨(-230), by decide +kernel, by decide, rfl⟩
theorem dX8_takesBlock_290 : uD 1 cX8_takesBlock 290 (.iconst 0) 291 := ⟨by decide +kernel, rfl⟩
theorem dX8_takesBlock_291 : uD 2 cX8_takesBlock 291 (.istore 6) 293 := ⟨by decide +kernel, rfl⟩
theorem dX8_takesBlock_293 : uD 2 cX8_takesBlock 293 (.iload 6) 295 := ⟨by decide +kernel, rfl⟩
theorem dX8_takesBlock_295 : uD 3 cX8_takesBlock 295 (.sipush 1503) 298 := ⟨by decide +kernel, rfl⟩
theorem dX8_takesBlock_298 : uJ cX8_takesBlock 298 (fun o => .if_icmp .ge o) 321 301 := ⟨23, by decide +kernel, by decide, rfl⟩
theorem dX8_takesBlock_301 : uD 1 cX8_takesBlock 301 (.aload_n 0) 302 := ⟨by decide +kernel, rfl⟩
theorem dX8_takesBlock_302 : uD 3 cX8_takesBlock 302 (.getfield 33) 305 := ⟨by decide +kernel, rfl⟩
theorem dX8_takesBlock_305 : uD 2 cX8_takesBlock 305 (.iload 6) 307 := ⟨by decide +kernel, rfl⟩
theorem dX8_takesBlock_307 : uD 1 cX8_takesBlock 307 (.aload_n 0) 308 := ⟨by decide +kernel, rfl⟩
theorem dX8_takesBlock_308 : uD 3 cX8_takesBlock 308 (.getfield 37) 311 := ⟨by decide +kernel, rfl⟩
theorem dX8_takesBlock_311 : uD 2 cX8_takesBlock 311 (.iload 6) 313 := ⟨by decide +kernel, rfl⟩
theorem dX8_takesBlock_313 : uD 1 cX8_takesBlock 313 (.laload) 314 := ⟨by decide +kernel, rfl⟩
theorem dX8_takesBlock_314 : uD 1 cX8_takesBlock 314 (.lastore) 315 := ⟨by decide +kernel, rfl⟩
theorem dX8_takesBlock_315 : uD 3 cX8_takesBlock 315 (.iinc 6 1) 318 := ⟨by decide +kernel, rfl⟩
theorem dX8_takesBlock_318 : uJ cX8_takesBlock 318 (fun o => .goto o) 293 321 := ⟨(-25), by decide +kernel, by decide, rfl⟩
theorem dX8_takesBlock_321 : uD 1 cX8_takesBlock 321 (.return_) 322 := ⟨by decide +kernel, rfl⟩
theorem dX8_weighs_0 : uD 1 cX8_weighs 0 (.iconst 0) 1 := ⟨by decide +kernel, rfl⟩
theorem dX8_weighs_1 : uD 1 cX8_weighs 1 (.istore_n 2) 2 := ⟨by decide +kernel, rfl⟩
theorem dX8_weighs_2 : uD 1 cX8_weighs 2 (.iload_n 2) 3 := ⟨by decide +kernel, rfl⟩
theorem dX8_weighs_3 : uD 3 cX8_weighs 3 (.sipush 1503) 6 := ⟨by decide +kernel, rfl⟩
theorem dX8_weighs_6 : uJ cX8_weighs 6 (fun o => .if_icmp .ge o) 24 9 := ⟨18, by decide +kernel, by decide, rfl⟩
theorem dX8_weighs_9 : uD 1 cX8_weighs 9 (.aload_n 0) 10 := ⟨by decide +kernel, rfl⟩
theorem dX8_weighs_10 : uD 3 cX8_weighs 10 (.getfield 33) 13 := ⟨by decide +kernel, rfl⟩
theorem dX8_weighs_13 : uD 1 cX8_weighs 13 (.iload_n 2) 14 := ⟨by decide +kernel, rfl⟩
theorem dX8_weighs_14 : uD 3 cX8_weighs 14 (.ldc2_w 237) 17 := ⟨by decide +kernel, rfl⟩
theorem dX8_weighs_17 : uD 1 cX8_weighs 17 (.lastore) 18 := ⟨by decide +kernel, rfl⟩
theorem dX8_weighs_18 : uD 3 cX8_weighs 18 (.iinc 2 1) 21 := ⟨by decide +kernel, rfl⟩
theorem dX8_weighs_21 : uJ cX8_weighs 21 (fun o => .goto o) 2 24 := ⟨(-19), by decide +kernel, by decide, rfl⟩
theorem dX8_weighs_24 : uD 1 cX8_weighs 24 (.aload_n 0) 25 := ⟨by decide +kernel, rfl⟩
theorem dX8_weighs_25 : uD 3 cX8_weighs 25 (.getfield 33) 28 := ⟨by decide +kernel, rfl⟩
theorem dX8_weighs_28 : uD 1 cX8_weighs 28 (.iconst 0) 29 := ⟨by decide +kernel, rfl⟩
theorem dX8_weighs_29 : uD 1 cX8_weighs 29 (.lconst 0) 30 := ⟨by decide +kernel, rfl⟩
theorem dX8_weighs_30 : uD 1 cX8_weighs 30 (.lastore) 31 := ⟨by decide +kernel, rfl⟩
theorem dX8_weighs_31 : uD 1 cX8_weighs 31 (.iconst 0) 32 := ⟨by decide +kernel, rfl⟩
theorem dX8_weighs_32 : uD 1 cX8_weighs 32 (.istore_n 2) 33 := ⟨by decide +kernel, rfl⟩
theorem dX8_weighs_33 : uD 1 cX8_weighs 33 (.iload_n 2) 34 := ⟨by decide +kernel, rfl⟩
theorem dX8_weighs_34 : uD 1 cX8_weighs 34 (.aload_n 0) 35 := ⟨by decide +kernel, rfl⟩
theorem dX8_weighs_35 : uD 3 cX8_weighs 35 (.getfield 7) 38 := ⟨by decide +kernel, rfl⟩
theorem dX8_weighs_38 : uD 2 cX8_weighs 38 (.bipush 36) 40 := ⟨by decide +kernel, rfl⟩
theorem dX8_weighs_40 : uD 1 cX8_weighs 40 (.iaload) 41 := ⟨by decide +kernel, rfl⟩
theorem dX8_weighs_41 : uJ cX8_weighs 41 (fun o => .if_icmp .ge o) 128 44 := ⟨87, by decide +kernel, by decide, rfl⟩
theorem dX8_weighs_44 : uD 1 cX8_weighs 44 (.iload_n 2) 45 := ⟨by decide +kernel, rfl⟩
theorem dX8_weighs_45 : uJ cX8_weighs 45 (fun o => .ifCond .le o) 67 48 := ⟨22, by decide +kernel, by decide, rfl⟩
theorem dX8_weighs_48 : uD 1 cX8_weighs 48 (.aload_n 0) 49 := ⟨by decide +kernel, rfl⟩
theorem dX8_weighs_49 : uD 1 cX8_weighs 49 (.iload_n 2) 50 := ⟨by decide +kernel, rfl⟩
theorem dX8_weighs_50 : uD 1 cX8_weighs 50 (.iconst 1) 51 := ⟨by decide +kernel, rfl⟩
theorem dX8_weighs_51 : uD 1 cX8_weighs 51 (.isub) 52 := ⟨by decide +kernel, rfl⟩
theorem dX8_weighs_52 : uD 3 cX8_weighs 52 (.invokevirtual 166) 55 := ⟨by decide +kernel, rfl⟩
theorem dX8_weighs_55 : uD 1 cX8_weighs 55 (.aload_n 0) 56 := ⟨by decide +kernel, rfl⟩
theorem dX8_weighs_56 : uD 1 cX8_weighs 56 (.iload_n 2) 57 := ⟨by decide +kernel, rfl⟩
theorem dX8_weighs_57 : uD 3 cX8_weighs 57 (.invokevirtual 166) 60 := ⟨by decide +kernel, rfl⟩
theorem dX8_weighs_60 : uJ cX8_weighs 60 (fun o => .if_icmp .ne o) 67 63 := ⟨7, by decide +kernel, by decide, rfl⟩
theorem dX8_weighs_63 : uD 1 cX8_weighs 63 (.iconst 1) 64 := ⟨by decide +kernel, rfl⟩
theorem dX8_weighs_64 : uJ cX8_weighs 64 (fun o => .goto o) 68 67 := ⟨4, by decide +kernel, by decide, rfl⟩
theorem dX8_weighs_67 : uD 1 cX8_weighs 67 (.iconst 0) 68 := ⟨by decide +kernel, rfl⟩
theorem dX8_weighs_68 : uD 1 cX8_weighs 68 (.istore_n 3) 69 := ⟨by decide +kernel, rfl⟩
theorem dX8_weighs_69 : uD 1 cX8_weighs 69 (.iload_n 3) 70 := ⟨by decide +kernel, rfl⟩
theorem dX8_weighs_70 : uJ cX8_weighs 70 (fun o => .ifCond .ne o) 77 73 := ⟨7, by decide +kernel, by decide, rfl⟩
theorem dX8_weighs_73 : uD 1 cX8_weighs 73 (.aload_n 0) 74 := ⟨by decide +kernel, rfl⟩
theorem dX8_weighs_74 : uD 3 cX8_weighs 74 (.invokevirtual 239) 77 := ⟨by decide +kernel, rfl⟩
theorem dX8_weighs_77 : uD 1 cX8_weighs 77 (.iload_n 1) 78 := ⟨by decide +kernel, rfl⟩
theorem dX8_weighs_78 : uD 1 cX8_weighs 78 (.aload_n 0) 79 := ⟨by decide +kernel, rfl⟩
theorem dX8_weighs_79 : uD 1 cX8_weighs 79 (.iload_n 2) 80 := ⟨by decide +kernel, rfl⟩
theorem dX8_weighs_80 : uD 3 cX8_weighs 80 (.invokevirtual 166) 83 := ⟨by decide +kernel, rfl⟩
theorem dX8_weighs_83 : uD 3 cX8_weighs 83 (.invokestatic 144) 86 := ⟨by decide +kernel, rfl⟩
theorem dX8_weighs_86 : uJ cX8_weighs 86 (fun o => .ifCond .ne o) 122 89 := ⟨36, by decide +kernel, by decide, rfl⟩
theorem dX8_weighs_89 : uD 1 cX8_weighs 89 (.aload_n 0) 90 := ⟨by decide +kernel, rfl⟩
theorem dX8_weighs_90 : uD 1 cX8_weighs 90 (.iload_n 2) 91 := ⟨by decide +kernel, rfl⟩
theorem dX8_weighs_91 : uD 1 cX8_weighs 91 (.iload_n 3) 92 := ⟨by decide +kernel, rfl⟩
theorem dX8_weighs_92 : uJ cX8_weighs 92 (fun o => .ifCond .eq o) 118 95 := ⟨26, by decide +kernel, by decide, rfl⟩
theorem dX8_weighs_95 : uD 1 cX8_weighs 95 (.aload_n 0) 96 := ⟨by decide +kernel, rfl⟩
theorem dX8_weighs_96 : uD 1 cX8_weighs 96 (.iload_n 2) 97 := ⟨by decide +kernel, rfl⟩
theorem dX8_weighs_97 : uD 1 cX8_weighs 97 (.iconst 1) 98 := ⟨by decide +kernel, rfl⟩
theorem dX8_weighs_98 : uD 1 cX8_weighs 98 (.isub) 99 := ⟨by decide +kernel, rfl⟩
theorem dX8_weighs_99 : uD 1 cX8_weighs 99 (.iconst 0) 100 := ⟨by decide +kernel, rfl⟩
theorem dX8_weighs_100 : uD 3 cX8_weighs 100 (.invokevirtual 160) 103 := ⟨by decide +kernel, rfl⟩
theorem dX8_weighs_103 : uD 1 cX8_weighs 103 (.iconst 1) 104 := ⟨by decide +kernel, rfl⟩
theorem dX8_weighs_104 : uD 1 cX8_weighs 104 (.iadd) 105 := ⟨by decide +kernel, rfl⟩
theorem dX8_weighs_105 : uD 1 cX8_weighs 105 (.aload_n 0) 106 := ⟨by decide +kernel, rfl⟩
theorem dX8_weighs_106 : uD 1 cX8_weighs 106 (.iload_n 2) 107 := ⟨by decide +kernel, rfl⟩
theorem dX8_weighs_107 : uD 1 cX8_weighs 107 (.iconst 0) 108 := ⟨by decide +kernel, rfl⟩
theorem dX8_weighs_108 : uD 3 cX8_weighs 108 (.invokevirtual 160) 111 := ⟨by decide +kernel, rfl⟩
theorem dX8_weighs_111 : uJ cX8_weighs 111 (fun o => .if_icmp .ne o) 118 114 := ⟨7, by decide +kernel, by decide, rfl⟩
theorem dX8_weighs_114 : uD 1 cX8_weighs 114 (.iconst 1) 115 := ⟨by decide +kernel, rfl⟩
theorem dX8_weighs_115 : uJ cX8_weighs 115 (fun o => .goto o) 119 118 := ⟨4, by decide +kernel, by decide, rfl⟩
theorem dX8_weighs_118 : uD 1 cX8_weighs 118 (.iconst 0) 119 := ⟨by decide +kernel, rfl⟩
theorem dX8_weighs_119 : uD 3 cX8_weighs 119 (.invokevirtual 242) 122 := ⟨by decide +kernel, rfl⟩
theorem dX8_weighs_122 : uD 3 cX8_weighs 122 (.iinc 2 1) 125 := ⟨by decide +kernel, rfl⟩
theorem dX8_weighs_125 : uJ cX8_weighs 125 (fun o => .goto o) 33 128 := ⟨(-92), by decide +kernel, by decide, rfl⟩
theorem dX8_weighs_128 : uD 1 cX8_weighs 128 (.aload_n 0) 129 := ⟨by decide +kernel, rfl⟩
theorem dX8_weighs_129 : uD 3 cX8_weighs 129 (.invokevirtual 239) 132 := ⟨by decide +kernel, rfl⟩
theorem dX8_weighs_132 : uD 1 cX8_weighs 132 (.iconst 0) 133 := ⟨by decide +kernel, rfl⟩
theorem dX8_weighs_133 : uD 1 cX8_weighs 133 (.istore_n 2) 134 := ⟨by decide +kernel, rfl⟩
theorem dX8_weighs_134 : uD 1 cX8_weighs 134 (.iload_n 2) 135 := ⟨by decide +kernel, rfl⟩
theorem dX8_weighs_135 : uD 3 cX8_weighs 135 (.sipush 500) 138 := ⟨by decide +kernel, rfl⟩
theorem dX8_weighs_138 : uJ cX8_weighs 138 (fun o => .if_icmp .gt o) 161 141 := ⟨23, by decide +kernel, by decide, rfl⟩
theorem dX8_weighs_141 : uD 1 cX8_weighs 141 (.aload_n 0) 142 := ⟨by decide +kernel, rfl⟩
theorem dX8_weighs_142 : uD 3 cX8_weighs 142 (.getfield 40) 145 := ⟨by decide +kernel, rfl⟩
theorem dX8_weighs_145 : uD 1 cX8_weighs 145 (.iload_n 2) 146 := ⟨by decide +kernel, rfl⟩
theorem dX8_weighs_146 : uD 1 cX8_weighs 146 (.aload_n 0) 147 := ⟨by decide +kernel, rfl⟩
theorem dX8_weighs_147 : uD 3 cX8_weighs 147 (.getfield 33) 150 := ⟨by decide +kernel, rfl⟩
theorem dX8_weighs_150 : uD 1 cX8_weighs 150 (.iconst 3) 151 := ⟨by decide +kernel, rfl⟩
theorem dX8_weighs_151 : uD 1 cX8_weighs 151 (.iload_n 2) 152 := ⟨by decide +kernel, rfl⟩
theorem dX8_weighs_152 : uD 1 cX8_weighs 152 (.imul) 153 := ⟨by decide +kernel, rfl⟩
theorem dX8_weighs_153 : uD 1 cX8_weighs 153 (.laload) 154 := ⟨by decide +kernel, rfl⟩
theorem dX8_weighs_154 : uD 1 cX8_weighs 154 (.lastore) 155 := ⟨by decide +kernel, rfl⟩
theorem dX8_weighs_155 : uD 3 cX8_weighs 155 (.iinc 2 1) 158 := ⟨by decide +kernel, rfl⟩
theorem dX8_weighs_158 : uJ cX8_weighs 158 (fun o => .goto o) 134 161 := ⟨(-24), by decide +kernel, by decide, rfl⟩
theorem dX8_weighs_161 : uD 1 cX8_weighs 161 (.return_) 162 := ⟨by decide +kernel, rfl⟩
theorem dX8_valueBy_0 : uD 1 cX8_valueBy 0 (.aload_n 0) 1 := ⟨by decide +kernel, rfl⟩
theorem dX8_valueBy_1 : uD 3 cX8_valueBy 1 (.getfield 40) 4 := ⟨by decide +kernel, rfl⟩
theorem dX8_valueBy_4 : uD 1 cX8_valueBy 4 (.iload_n 1) 5 := ⟨by decide +kernel, rfl⟩
theorem dX8_valueBy_5 : uD 1 cX8_valueBy 5 (.laload) 6 := ⟨by decide +kernel, rfl⟩
theorem dX8_valueBy_6 : uD 3 cX8_valueBy 6 (.ldc2_w 237) 9 := ⟨by decide +kernel, rfl⟩
theorem dX8_valueBy_9 : uD 1 cX8_valueBy 9 (.lcmp) 10 := ⟨by decide +kernel, rfl⟩
theorem dX8_valueBy_10 : uJ cX8_valueBy 10 (fun o => .ifCond .ne o) 17 13 := ⟨7, by decide +kernel, by decide, rfl⟩
theorem dX8_valueBy_13 : uD 1 cX8_valueBy 13 (.iconst (-1)) 14 := ⟨by decide +kernel, rfl⟩
theorem dX8_valueBy_14 : uJ cX8_valueBy 14 (fun o => .goto o) 33 17 := ⟨19, by decide +kernel, by decide, rfl⟩
theorem dX8_valueBy_17 : uD 1 cX8_valueBy 17 (.aload_n 0) 18 := ⟨by decide +kernel, rfl⟩
theorem dX8_valueBy_18 : uD 3 cX8_valueBy 18 (.getfield 40) 21 := ⟨by decide +kernel, rfl⟩
theorem dX8_valueBy_21 : uD 1 cX8_valueBy 21 (.iload_n 1) 22 := ⟨by decide +kernel, rfl⟩
theorem dX8_valueBy_22 : uD 1 cX8_valueBy 22 (.laload) 23 := ⟨by decide +kernel, rfl⟩
theorem dX8_valueBy_23 : uD 3 cX8_valueBy 23 (.ldc2_w 246) 26 := ⟨by decide +kernel, rfl⟩
theorem dX8_valueBy_26 : uD 1 cX8_valueBy 26 (.ladd) 27 := ⟨by decide +kernel, rfl⟩
theorem dX8_valueBy_27 : uD 1 cX8_valueBy 27 (.lconst 1) 28 := ⟨by decide +kernel, rfl⟩
theorem dX8_valueBy_28 : uD 1 cX8_valueBy 28 (.lsub) 29 := ⟨by decide +kernel, rfl⟩
theorem dX8_valueBy_29 : uD 2 cX8_valueBy 29 (.bipush 24) 31 := ⟨by decide +kernel, rfl⟩
theorem dX8_valueBy_31 : uD 1 cX8_valueBy 31 (.lshr) 32 := ⟨by decide +kernel, rfl⟩
theorem dX8_valueBy_32 : uD 1 cX8_valueBy 32 (.l2i) 33 := ⟨by decide +kernel, rfl⟩
theorem dX8_valueBy_33 : uD 1 cX8_valueBy 33 (.ireturn) 34 := ⟨by decide +kernel, rfl⟩
theorem dX8_leastOf_0 : uD 1 cX8_leastOf 0 (.iconst 0) 1 := ⟨by decide +kernel, rfl⟩
theorem dX8_leastOf_1 : uD 1 cX8_leastOf 1 (.istore_n 2) 2 := ⟨by decide +kernel, rfl⟩
theorem dX8_leastOf_2 : uD 1 cX8_leastOf 2 (.iconst 1) 3 := ⟨by decide +kernel, rfl⟩
theorem dX8_leastOf_3 : uD 1 cX8_leastOf 3 (.istore_n 3) 4 := ⟨by decide +kernel, rfl⟩
theorem dX8_leastOf_4 : uD 1 cX8_leastOf 4 (.iload_n 3) 5 := ⟨by decide +kernel, rfl⟩
theorem dX8_leastOf_5 : uD 1 cX8_leastOf 5 (.iload_n 1) 6 := ⟨by decide +kernel, rfl⟩
theorem dX8_leastOf_6 : uJ cX8_leastOf 6 (fun o => .if_icmp .gt o) 34 9 := ⟨28, by decide +kernel, by decide, rfl⟩
theorem dX8_leastOf_9 : uD 1 cX8_leastOf 9 (.aload_n 0) 10 := ⟨by decide +kernel, rfl⟩
theorem dX8_leastOf_10 : uD 1 cX8_leastOf 10 (.iload_n 3) 11 := ⟨by decide +kernel, rfl⟩
theorem dX8_leastOf_11 : uD 3 cX8_leastOf 11 (.invokevirtual 248) 14 := ⟨by decide +kernel, rfl⟩
theorem dX8_leastOf_14 : uD 1 cX8_leastOf 14 (.aload_n 0) 15 := ⟨by decide +kernel, rfl⟩
theorem dX8_leastOf_15 : uD 1 cX8_leastOf 15 (.iload_n 2) 16 := ⟨by decide +kernel, rfl⟩
theorem dX8_leastOf_16 : uD 3 cX8_leastOf 16 (.invokevirtual 248) 19 := ⟨by decide +kernel, rfl⟩
theorem dX8_leastOf_19 : uJ cX8_leastOf 19 (fun o => .if_icmp .le o) 26 22 := ⟨7, by decide +kernel, by decide, rfl⟩
theorem dX8_leastOf_22 : uD 1 cX8_leastOf 22 (.iload_n 3) 23 := ⟨by decide +kernel, rfl⟩
theorem dX8_leastOf_23 : uJ cX8_leastOf 23 (fun o => .goto o) 27 26 := ⟨4, by decide +kernel, by decide, rfl⟩
theorem dX8_leastOf_26 : uD 1 cX8_leastOf 26 (.iload_n 2) 27 := ⟨by decide +kernel, rfl⟩
theorem dX8_leastOf_27 : uD 1 cX8_leastOf 27 (.istore_n 2) 28 := ⟨by decide +kernel, rfl⟩
theorem dX8_leastOf_28 : uD 3 cX8_leastOf 28 (.iinc 3 1) 31 := ⟨by decide +kernel, rfl⟩
theorem dX8_leastOf_31 : uJ cX8_leastOf 31 (fun o => .goto o) 4 34 := ⟨(-27), by decide +kernel, by decide, rfl⟩
theorem dX8_leastOf_34 : uD 1 cX8_leastOf 34 (.iload_n 2) 35 := ⟨by decide +kernel, rfl⟩
theorem dX8_leastOf_35 : uD 1 cX8_leastOf 35 (.ireturn) 36 := ⟨by decide +kernel, rfl⟩
theorem dX8_bestOf_0 : uD 1 cX8_bestOf 0 (.aload_n 0) 1 := ⟨by decide +kernel, rfl⟩
theorem dX8_bestOf_1 : uD 1 cX8_bestOf 1 (.iload_n 1) 2 := ⟨by decide +kernel, rfl⟩
theorem dX8_bestOf_2 : uD 3 cX8_bestOf 2 (.invokevirtual 251) 5 := ⟨by decide +kernel, rfl⟩
theorem dX8_bestOf_5 : uD 1 cX8_bestOf 5 (.istore_n 2) 6 := ⟨by decide +kernel, rfl⟩
theorem dX8_bestOf_6 : uD 1 cX8_bestOf 6 (.aload_n 0) 7 := ⟨by decide +kernel, rfl⟩
theorem dX8_bestOf_7 : uD 1 cX8_bestOf 7 (.iload_n 2) 8 := ⟨by decide +kernel, rfl⟩
theorem dX8_bestOf_8 : uD 3 cX8_bestOf 8 (.invokevirtual 248) 11 := ⟨by decide +kernel, rfl⟩
theorem dX8_bestOf_11 : uD 1 cX8_bestOf 11 (.i2l) 12 := ⟨by decide +kernel, rfl⟩
theorem dX8_bestOf_12 : uD 2 cX8_bestOf 12 (.bipush 24) 14 := ⟨by decide +kernel, rfl⟩
theorem dX8_bestOf_14 : uD 1 cX8_bestOf 14 (.lshl) 15 := ⟨by decide +kernel, rfl⟩
theorem dX8_bestOf_15 : uD 1 cX8_bestOf 15 (.aload_n 0) 16 := ⟨by decide +kernel, rfl⟩
theorem dX8_bestOf_16 : uD 3 cX8_bestOf 16 (.getfield 40) 19 := ⟨by decide +kernel, rfl⟩
theorem dX8_bestOf_19 : uD 1 cX8_bestOf 19 (.iload_n 2) 20 := ⟨by decide +kernel, rfl⟩
theorem dX8_bestOf_20 : uD 1 cX8_bestOf 20 (.laload) 21 := ⟨by decide +kernel, rfl⟩
theorem dX8_bestOf_21 : uD 1 cX8_bestOf 21 (.lsub) 22 := ⟨by decide +kernel, rfl⟩
theorem dX8_bestOf_22 : uD 1 cX8_bestOf 22 (.l2i) 23 := ⟨by decide +kernel, rfl⟩
theorem dX8_bestOf_23 : uD 1 cX8_bestOf 23 (.ireturn) 24 := ⟨by decide +kernel, rfl⟩
theorem dX8_valueWithin_0 : uD 1 cX8_valueWithin 0 (.aload_n 0) 1 := ⟨by decide +kernel, rfl⟩
theorem dX8_valueWithin_1 : uD 1 cX8_valueWithin 1 (.iload_n 1) 2 := ⟨by decide +kernel, rfl⟩
theorem dX8_valueWithin_2 : uD 3 cX8_valueWithin 2 (.invokevirtual 224) 5 := ⟨by decide +kernel, rfl⟩
theorem dX8_valueWithin_5 : uD 1 cX8_valueWithin 5 (.aload_n 0) 6 := ⟨by decide +kernel, rfl⟩
theorem dX8_valueWithin_6 : uD 1 cX8_valueWithin 6 (.aload_n 0) 7 := ⟨by decide +kernel, rfl⟩
theorem dX8_valueWithin_7 : uD 1 cX8_valueWithin 7 (.iload_n 2) 8 := ⟨by decide +kernel, rfl⟩
theorem dX8_valueWithin_8 : uD 3 cX8_valueWithin 8 (.invokevirtual 251) 11 := ⟨by decide +kernel, rfl⟩
theorem dX8_valueWithin_11 : uD 3 cX8_valueWithin 11 (.invokevirtual 248) 14 := ⟨by decide +kernel, rfl⟩
theorem dX8_valueWithin_14 : uD 1 cX8_valueWithin 14 (.ireturn) 15 := ⟨by decide +kernel, rfl⟩
theorem dX8_need_0 : uD 1 cX8_need 0 (.aload_n 0) 1 := ⟨by decide +kernel, rfl⟩
theorem dX8_need_1 : uD 1 cX8_need 1 (.iconst 0) 2 := ⟨by decide +kernel, rfl⟩
theorem dX8_need_2 : uD 3 cX8_need 2 (.putfield 49) 5 := ⟨by decide +kernel, rfl⟩
theorem dX8_need_5 : uD 1 cX8_need 5 (.aload_n 0) 6 := ⟨by decide +kernel, rfl⟩
theorem dX8_need_6 : uD 3 cX8_need 6 (.invokevirtual 254) 9 := ⟨by decide +kernel, rfl⟩
theorem dX8_need_9 : uD 1 cX8_need 9 (.ireturn) 10 := ⟨by decide +kernel, rfl⟩
theorem dX8_isSet_0 : uD 1 cX8_isSet 0 (.iload_n 1) 1 := ⟨by decide +kernel, rfl⟩
theorem dX8_isSet_1 : uD 1 cX8_isSet 1 (.aload_n 0) 2 := ⟨by decide +kernel, rfl⟩
theorem dX8_isSet_2 : uD 3 cX8_isSet 2 (.invokevirtual 221) 5 := ⟨by decide +kernel, rfl⟩
theorem dX8_isSet_5 : uD 1 cX8_isSet 5 (.iconst (-1)) 6 := ⟨by decide +kernel, rfl⟩
theorem dX8_isSet_6 : uD 1 cX8_isSet 6 (.ixor) 7 := ⟨by decide +kernel, rfl⟩
theorem dX8_isSet_7 : uD 1 cX8_isSet 7 (.iand) 8 := ⟨by decide +kernel, rfl⟩
theorem dX8_isSet_8 : uJ cX8_isSet 8 (fun o => .ifCond .ne o) 15 11 := ⟨7, by decide +kernel, by decide, rfl⟩
theorem dX8_isSet_11 : uD 1 cX8_isSet 11 (.iconst 1) 12 := ⟨by decide +kernel, rfl⟩
theorem dX8_isSet_12 : uJ cX8_isSet 12 (fun o => .goto o) 16 15 := ⟨4, by decide +kernel, by decide, rfl⟩
theorem dX8_isSet_15 : uD 1 cX8_isSet 15 (.iconst 0) 16 := ⟨by decide +kernel, rfl⟩
theorem dX8_isSet_16 : uD 1 cX8_isSet 16 (.ireturn) 17 := ⟨by decide +kernel, rfl⟩
theorem dX8_energyOf_0 : uD 1 cX8_energyOf 0 (.aload_n 0) 1 := ⟨by decide +kernel, rfl⟩
theorem dX8_energyOf_1 : uD 1 cX8_energyOf 1 (.iconst 0) 2 := ⟨by decide +kernel, rfl⟩
theorem dX8_energyOf_2 : uD 3 cX8_energyOf 2 (.putfield 49) 5 := ⟨by decide +kernel, rfl⟩
theorem dX8_energyOf_5 : uD 1 cX8_energyOf 5 (.aload_n 0) 6 := ⟨by decide +kernel, rfl⟩
theorem dX8_energyOf_6 : uD 1 cX8_energyOf 6 (.aload_n 0) 7 := ⟨by decide +kernel, rfl⟩
theorem dX8_energyOf_7 : uD 1 cX8_energyOf 7 (.iload_n 1) 8 := ⟨by decide +kernel, rfl⟩
theorem dX8_energyOf_8 : uD 3 cX8_energyOf 8 (.invokevirtual 257) 11 := ⟨by decide +kernel, rfl⟩
theorem dX8_energyOf_11 : uD 1 cX8_energyOf 11 (.iconst 1) 12 := ⟨by decide +kernel, rfl⟩
theorem dX8_energyOf_12 : uD 3 cX8_energyOf 12 (.invokevirtual 55) 15 := ⟨by decide +kernel, rfl⟩
theorem dX8_energyOf_15 : uJ cX8_energyOf 15 (fun o => .ifCond .eq o) 26 18 := ⟨11, by decide +kernel, by decide, rfl⟩
theorem dX8_energyOf_18 : uD 1 cX8_energyOf 18 (.aload_n 0) 19 := ⟨by decide +kernel, rfl⟩
theorem dX8_energyOf_19 : uD 1 cX8_energyOf 19 (.iload_n 1) 20 := ⟨by decide +kernel, rfl⟩
theorem dX8_energyOf_20 : uD 3 cX8_energyOf 20 (.invokevirtual 175) 23 := ⟨by decide +kernel, rfl⟩
theorem dX8_energyOf_23 : uJ cX8_energyOf 23 (fun o => .goto o) 27 26 := ⟨4, by decide +kernel, by decide, rfl⟩
theorem dX8_energyOf_26 : uD 1 cX8_energyOf 26 (.iconst 0) 27 := ⟨by decide +kernel, rfl⟩
theorem dX8_energyOf_27 : uD 1 cX8_energyOf 27 (.ireturn) 28 := ⟨by decide +kernel, rfl⟩
theorem dX8_valueOf_0 : uD 1 cX8_valueOf 0 (.aload_n 0) 1 := ⟨by decide +kernel, rfl⟩
theorem dX8_valueOf_1 : uD 1 cX8_valueOf 1 (.iconst 0) 2 := ⟨by decide +kernel, rfl⟩
theorem dX8_valueOf_2 : uD 3 cX8_valueOf 2 (.putfield 49) 5 := ⟨by decide +kernel, rfl⟩
theorem dX8_valueOf_5 : uD 1 cX8_valueOf 5 (.aload_n 0) 6 := ⟨by decide +kernel, rfl⟩
theorem dX8_valueOf_6 : uD 1 cX8_valueOf 6 (.aload_n 0) 7 := ⟨by decide +kernel, rfl⟩
theorem dX8_valueOf_7 : uD 1 cX8_valueOf 7 (.iload_n 1) 8 := ⟨by decide +kernel, rfl⟩
theorem dX8_valueOf_8 : uD 3 cX8_valueOf 8 (.invokevirtual 257) 11 := ⟨by decide +kernel, rfl⟩
theorem dX8_valueOf_11 : uD 1 cX8_valueOf 11 (.iconst 1) 12 := ⟨by decide +kernel, rfl⟩
theorem dX8_valueOf_12 : uD 3 cX8_valueOf 12 (.invokevirtual 55) 15 := ⟨by decide +kernel, rfl⟩
theorem dX8_valueOf_15 : uJ cX8_valueOf 15 (fun o => .ifCond .eq o) 26 18 := ⟨11, by decide +kernel, by decide, rfl⟩
theorem dX8_valueOf_18 : uD 1 cX8_valueOf 18 (.aload_n 0) 19 := ⟨by decide +kernel, rfl⟩
theorem dX8_valueOf_19 : uD 1 cX8_valueOf 19 (.iload_n 1) 20 := ⟨by decide +kernel, rfl⟩
theorem dX8_valueOf_20 : uD 3 cX8_valueOf 20 (.invokevirtual 187) 23 := ⟨by decide +kernel, rfl⟩
theorem dX8_valueOf_23 : uJ cX8_valueOf 23 (fun o => .goto o) 27 26 := ⟨4, by decide +kernel, by decide, rfl⟩
theorem dX8_valueOf_26 : uD 1 cX8_valueOf 26 (.iconst 0) 27 := ⟨by decide +kernel, rfl⟩
theorem dX8_valueOf_27 : uD 1 cX8_valueOf 27 (.ireturn) 28 := ⟨by decide +kernel, rfl⟩
theorem dX8_isEnergy_0 : uD 1 cX8_isEnergy 0 (.iload_n 1) 1 := ⟨by decide +kernel, rfl⟩
theorem dX8_isEnergy_1 : uD 1 cX8_isEnergy 1 (.iconst 0) 2 := ⟨by decide +kernel, rfl⟩
theorem dX8_isEnergy_2 : uD 3 cX8_isEnergy 2 (.sipush 500) 5 := ⟨by decide +kernel, rfl⟩
theorem dX8_isEnergy_5 : uD 3 cX8_isEnergy 5 (.invokestatic 59) 8 := ⟨by decide +kernel, rfl⟩
theorem dX8_isEnergy_8 : uD 1 cX8_isEnergy 8 (.ireturn) 9 := ⟨by decide +kernel, rfl⟩
theorem dX8_bestSet_0 : uD 1 cX8_bestSet 0 (.aload_n 0) 1 := ⟨by decide +kernel, rfl⟩
theorem dX8_bestSet_1 : uD 1 cX8_bestSet 1 (.iconst 0) 2 := ⟨by decide +kernel, rfl⟩
theorem dX8_bestSet_2 : uD 3 cX8_bestSet 2 (.putfield 49) 5 := ⟨by decide +kernel, rfl⟩
theorem dX8_bestSet_5 : uD 1 cX8_bestSet 5 (.aload_n 0) 6 := ⟨by decide +kernel, rfl⟩
theorem dX8_bestSet_6 : uD 1 cX8_bestSet 6 (.aload_n 0) 7 := ⟨by decide +kernel, rfl⟩
theorem dX8_bestSet_7 : uD 1 cX8_bestSet 7 (.iload_n 1) 8 := ⟨by decide +kernel, rfl⟩
theorem dX8_bestSet_8 : uD 3 cX8_bestSet 8 (.invokevirtual 260) 11 := ⟨by decide +kernel, rfl⟩
theorem dX8_bestSet_11 : uD 1 cX8_bestSet 11 (.iconst 1) 12 := ⟨by decide +kernel, rfl⟩
theorem dX8_bestSet_12 : uD 3 cX8_bestSet 12 (.invokevirtual 55) 15 := ⟨by decide +kernel, rfl⟩
theorem dX8_bestSet_15 : uJ cX8_bestSet 15 (fun o => .ifCond .ne o) 20 18 := ⟨5, by decide +kernel, by decide, rfl⟩
theorem dX8_bestSet_18 : uD 1 cX8_bestSet 18 (.iconst 0) 19 := ⟨by decide +kernel, rfl⟩
theorem dX8_bestSet_19 : uD 1 cX8_bestSet 19 (.ireturn) 20 := ⟨by decide +kernel, rfl⟩
theorem dX8_bestSet_20 : uD 1 cX8_bestSet 20 (.aload_n 0) 21 := ⟨by decide +kernel, rfl⟩
theorem dX8_bestSet_21 : uD 1 cX8_bestSet 21 (.aload_n 0) 22 := ⟨by decide +kernel, rfl⟩
theorem dX8_bestSet_22 : uD 3 cX8_bestSet 22 (.getfield 7) 25 := ⟨by decide +kernel, rfl⟩
theorem dX8_bestSet_25 : uD 2 cX8_bestSet 25 (.bipush 25) 27 := ⟨by decide +kernel, rfl⟩
theorem dX8_bestSet_27 : uD 1 cX8_bestSet 27 (.iaload) 28 := ⟨by decide +kernel, rfl⟩
theorem dX8_bestSet_28 : uD 3 cX8_bestSet 28 (.invokevirtual 224) 31 := ⟨by decide +kernel, rfl⟩
theorem dX8_bestSet_31 : uD 1 cX8_bestSet 31 (.aload_n 0) 32 := ⟨by decide +kernel, rfl⟩
theorem dX8_bestSet_32 : uD 1 cX8_bestSet 32 (.iload_n 1) 33 := ⟨by decide +kernel, rfl⟩
theorem dX8_bestSet_33 : uD 3 cX8_bestSet 33 (.invokevirtual 227) 36 := ⟨by decide +kernel, rfl⟩
theorem dX8_bestSet_36 : uD 1 cX8_bestSet 36 (.ireturn) 37 := ⟨by decide +kernel, rfl⟩
theorem dX8_bestValue_0 : uD 1 cX8_bestValue 0 (.aload_n 0) 1 := ⟨by decide +kernel, rfl⟩
theorem dX8_bestValue_1 : uD 1 cX8_bestValue 1 (.iconst 0) 2 := ⟨by decide +kernel, rfl⟩
theorem dX8_bestValue_2 : uD 3 cX8_bestValue 2 (.putfield 49) 5 := ⟨by decide +kernel, rfl⟩
theorem dX8_bestValue_5 : uD 1 cX8_bestValue 5 (.aload_n 0) 6 := ⟨by decide +kernel, rfl⟩
theorem dX8_bestValue_6 : uD 1 cX8_bestValue 6 (.aload_n 0) 7 := ⟨by decide +kernel, rfl⟩
theorem dX8_bestValue_7 : uD 1 cX8_bestValue 7 (.iload_n 1) 8 := ⟨by decide +kernel, rfl⟩
theorem dX8_bestValue_8 : uD 3 cX8_bestValue 8 (.invokevirtual 260) 11 := ⟨by decide +kernel, rfl⟩
theorem dX8_bestValue_11 : uD 1 cX8_bestValue 11 (.iconst 1) 12 := ⟨by decide +kernel, rfl⟩
theorem dX8_bestValue_12 : uD 3 cX8_bestValue 12 (.invokevirtual 55) 15 := ⟨by decide +kernel, rfl⟩
theorem dX8_bestValue_15 : uJ cX8_bestValue 15 (fun o => .ifCond .eq o) 33 18 := ⟨18, by decide +kernel, by decide, rfl⟩
theorem dX8_bestValue_18 : uD 1 cX8_bestValue 18 (.aload_n 0) 19 := ⟨by decide +kernel, rfl⟩
theorem dX8_bestValue_19 : uD 1 cX8_bestValue 19 (.aload_n 0) 20 := ⟨by decide +kernel, rfl⟩
theorem dX8_bestValue_20 : uD 3 cX8_bestValue 20 (.getfield 7) 23 := ⟨by decide +kernel, rfl⟩
theorem dX8_bestValue_23 : uD 2 cX8_bestValue 23 (.bipush 25) 25 := ⟨by decide +kernel, rfl⟩
theorem dX8_bestValue_25 : uD 1 cX8_bestValue 25 (.iaload) 26 := ⟨by decide +kernel, rfl⟩
theorem dX8_bestValue_26 : uD 1 cX8_bestValue 26 (.iload_n 1) 27 := ⟨by decide +kernel, rfl⟩
theorem dX8_bestValue_27 : uD 3 cX8_bestValue 27 (.invokevirtual 263) 30 := ⟨by decide +kernel, rfl⟩
theorem dX8_bestValue_30 : uJ cX8_bestValue 30 (fun o => .goto o) 34 33 := ⟨4, by decide +kernel, by decide, rfl⟩
theorem dX8_bestValue_33 : uD 1 cX8_bestValue 33 (.iconst 0) 34 := ⟨by decide +kernel, rfl⟩
theorem dX8_bestValue_34 : uD 1 cX8_bestValue 34 (.ireturn) 35 := ⟨by decide +kernel, rfl⟩
theorem dX8_greedyOf_0 : uD 1 cX8_greedyOf 0 (.iconst 0) 1 := ⟨by decide +kernel, rfl⟩
theorem dX8_greedyOf_1 : uD 1 cX8_greedyOf 1 (.istore_n 2) 2 := ⟨by decide +kernel, rfl⟩
theorem dX8_greedyOf_2 : uD 1 cX8_greedyOf 2 (.aload_n 0) 3 := ⟨by decide +kernel, rfl⟩
theorem dX8_greedyOf_3 : uD 3 cX8_greedyOf 3 (.invokevirtual 172) 6 := ⟨by decide +kernel, rfl⟩
theorem dX8_greedyOf_6 : uD 1 cX8_greedyOf 6 (.istore_n 3) 7 := ⟨by decide +kernel, rfl⟩
theorem dX8_greedyOf_7 : uD 1 cX8_greedyOf 7 (.iload_n 3) 8 := ⟨by decide +kernel, rfl⟩
theorem dX8_greedyOf_8 : uJ cX8_greedyOf 8 (fun o => .ifCond .eq o) 108 11 := ⟨100, by decide +kernel, by decide, rfl⟩
theorem dX8_greedyOf_11 : uD 1 cX8_greedyOf 11 (.iconst (-1)) 12 := ⟨by decide +kernel, rfl⟩
theorem dX8_greedyOf_12 : uD 2 cX8_greedyOf 12 (.istore 4) 14 := ⟨by decide +kernel, rfl⟩
theorem dX8_greedyOf_14 : uD 1 cX8_greedyOf 14 (.iconst 0) 15 := ⟨by decide +kernel, rfl⟩
theorem dX8_greedyOf_15 : uD 2 cX8_greedyOf 15 (.istore 5) 17 := ⟨by decide +kernel, rfl⟩
theorem dX8_greedyOf_17 : uD 2 cX8_greedyOf 17 (.iload 5) 19 := ⟨by decide +kernel, rfl⟩
theorem dX8_greedyOf_19 : uD 1 cX8_greedyOf 19 (.aload_n 0) 20 := ⟨by decide +kernel, rfl⟩
theorem dX8_greedyOf_20 : uD 3 cX8_greedyOf 20 (.getfield 7) 23 := ⟨by decide +kernel, rfl⟩
theorem dX8_greedyOf_23 : uD 2 cX8_greedyOf 23 (.bipush 36) 25 := ⟨by decide +kernel, rfl⟩
theorem dX8_greedyOf_25 : uD 1 cX8_greedyOf 25 (.iaload) 26 := ⟨by decide +kernel, rfl⟩
theorem dX8_greedyOf_26 : uJ cX8_greedyOf 26 (fun o => .if_icmp .ge o) 71 29 := ⟨45, by decide +kernel, by decide, rfl⟩
theorem dX8_greedyOf_29 : uD 1 cX8_greedyOf 29 (.iload_n 3) 30 := ⟨by decide +kernel, rfl⟩
theorem dX8_greedyOf_30 : uD 2 cX8_greedyOf 30 (.iload 5) 32 := ⟨by decide +kernel, rfl⟩
theorem dX8_greedyOf_32 : uD 3 cX8_greedyOf 32 (.invokestatic 144) 35 := ⟨by decide +kernel, rfl⟩
theorem dX8_greedyOf_35 : uJ cX8_greedyOf 35 (fun o => .ifCond .eq o) 65 38 := ⟨30, by decide +kernel, by decide, rfl⟩
theorem dX8_greedyOf_38 : uD 2 cX8_greedyOf 38 (.iload 4) 40 := ⟨by decide +kernel, rfl⟩
theorem dX8_greedyOf_40 : uD 1 cX8_greedyOf 40 (.iconst (-1)) 41 := ⟨by decide +kernel, rfl⟩
theorem dX8_greedyOf_41 : uJ cX8_greedyOf 41 (fun o => .if_icmp .eq o) 61 44 := ⟨20, by decide +kernel, by decide, rfl⟩
theorem dX8_greedyOf_44 : uD 1 cX8_greedyOf 44 (.aload_n 0) 45 := ⟨by decide +kernel, rfl⟩
theorem dX8_greedyOf_45 : uD 2 cX8_greedyOf 45 (.iload 5) 47 := ⟨by decide +kernel, rfl⟩
theorem dX8_greedyOf_47 : uD 1 cX8_greedyOf 47 (.iconst 1) 48 := ⟨by decide +kernel, rfl⟩
theorem dX8_greedyOf_48 : uD 3 cX8_greedyOf 48 (.invokevirtual 160) 51 := ⟨by decide +kernel, rfl⟩
theorem dX8_greedyOf_51 : uD 1 cX8_greedyOf 51 (.aload_n 0) 52 := ⟨by decide +kernel, rfl⟩
theorem dX8_greedyOf_52 : uD 2 cX8_greedyOf 52 (.iload 4) 54 := ⟨by decide +kernel, rfl⟩
theorem dX8_greedyOf_54 : uD 1 cX8_greedyOf 54 (.iconst 1) 55 := ⟨by decide +kernel, rfl⟩
theorem dX8_greedyOf_55 : uD 3 cX8_greedyOf 55 (.invokevirtual 160) 58 := ⟨by decide +kernel, rfl⟩
theorem dX8_greedyOf_58 : uJ cX8_greedyOf 58 (fun o => .if_icmp .le o) 65 61 := ⟨7, by decide +kernel, by decide, rfl⟩
theorem dX8_greedyOf_61 : uD 2 cX8_greedyOf 61 (.iload 5) 63 := ⟨by decide +kernel, rfl⟩
theorem dX8_greedyOf_63 : uD 2 cX8_greedyOf 63 (.istore 4) 65 := ⟨by decide +kernel, rfl⟩
theorem dX8_greedyOf_65 : uD 3 cX8_greedyOf 65 (.iinc 5 1) 68 := ⟨by decide +kernel, rfl⟩
theorem dX8_greedyOf_68 : uJ cX8_greedyOf 68 (fun o => .goto o) 17 71 := ⟨(-51), by decide +kernel, by decide, rfl⟩
theorem dX8_greedyOf_71 : uD 1 cX8_greedyOf 71 (.iload_n 3) 72 := ⟨by decide +kernel, rfl⟩
theorem dX8_greedyOf_72 : uD 1 cX8_greedyOf 72 (.iconst 1) 73 := ⟨by decide +kernel, rfl⟩
theorem dX8_greedyOf_73 : uD 2 cX8_greedyOf 73 (.iload 4) 75 := ⟨by decide +kernel, rfl⟩
theorem dX8_greedyOf_75 : uD 1 cX8_greedyOf 75 (.ishl) 76 := ⟨by decide +kernel, rfl⟩
theorem dX8_greedyOf_76 : uD 1 cX8_greedyOf 76 (.iconst (-1)) 77 := ⟨by decide +kernel, rfl⟩
theorem dX8_greedyOf_77 : uD 1 cX8_greedyOf 77 (.ixor) 78 := ⟨by decide +kernel, rfl⟩
theorem dX8_greedyOf_78 : uD 1 cX8_greedyOf 78 (.iand) 79 := ⟨by decide +kernel, rfl⟩
theorem dX8_greedyOf_79 : uD 1 cX8_greedyOf 79 (.istore_n 3) 80 := ⟨by decide +kernel, rfl⟩
theorem dX8_greedyOf_80 : uD 1 cX8_greedyOf 80 (.iload_n 2) 81 := ⟨by decide +kernel, rfl⟩
theorem dX8_greedyOf_81 : uD 1 cX8_greedyOf 81 (.aload_n 0) 82 := ⟨by decide +kernel, rfl⟩
theorem dX8_greedyOf_82 : uD 1 cX8_greedyOf 82 (.iload_n 2) 83 := ⟨by decide +kernel, rfl⟩
theorem dX8_greedyOf_83 : uD 1 cX8_greedyOf 83 (.iconst 1) 84 := ⟨by decide +kernel, rfl⟩
theorem dX8_greedyOf_84 : uD 2 cX8_greedyOf 84 (.iload 4) 86 := ⟨by decide +kernel, rfl⟩
theorem dX8_greedyOf_86 : uD 1 cX8_greedyOf 86 (.ishl) 87 := ⟨by decide +kernel, rfl⟩
theorem dX8_greedyOf_87 : uD 1 cX8_greedyOf 87 (.ior) 88 := ⟨by decide +kernel, rfl⟩
theorem dX8_greedyOf_88 : uD 3 cX8_greedyOf 88 (.invokevirtual 175) 91 := ⟨by decide +kernel, rfl⟩
theorem dX8_greedyOf_91 : uD 1 cX8_greedyOf 91 (.iload_n 1) 92 := ⟨by decide +kernel, rfl⟩
theorem dX8_greedyOf_92 : uJ cX8_greedyOf 92 (fun o => .if_icmp .gt o) 102 95 := ⟨10, by decide +kernel, by decide, rfl⟩
theorem dX8_greedyOf_95 : uD 1 cX8_greedyOf 95 (.iconst 1) 96 := ⟨by decide +kernel, rfl⟩
theorem dX8_greedyOf_96 : uD 2 cX8_greedyOf 96 (.iload 4) 98 := ⟨by decide +kernel, rfl⟩
theorem dX8_greedyOf_98 : uD 1 cX8_greedyOf 98 (.ishl) 99 := ⟨by decide +kernel, rfl⟩
theorem dX8_greedyOf_99 : uJ cX8_greedyOf 99 (fun o => .goto o) 103 102 := ⟨4, by decide +kernel, by decide, rfl⟩
theorem dX8_greedyOf_102 : uD 1 cX8_greedyOf 102 (.iconst 0) 103 := ⟨by decide +kernel, rfl⟩
theorem dX8_greedyOf_103 : uD 1 cX8_greedyOf 103 (.ior) 104 := ⟨by decide +kernel, rfl⟩
theorem dX8_greedyOf_104 : uD 1 cX8_greedyOf 104 (.istore_n 2) 105 := ⟨by decide +kernel, rfl⟩
theorem dX8_greedyOf_105 : uJ cX8_greedyOf 105 (fun o => .goto o) 7 108 := ⟨(-98), by decide +kernel, by decide, rfl⟩
theorem dX8_greedyOf_108 : uD 1 cX8_greedyOf 108 (.iload_n 2) 109 := ⟨by decide +kernel, rfl⟩
theorem dX8_greedyOf_109 : uD 1 cX8_greedyOf 109 (.ireturn) 110 := ⟨by decide +kernel, rfl⟩
theorem dX8_greedySet_0 : uD 1 cX8_greedySet 0 (.aload_n 0) 1 := ⟨by decide +kernel, rfl⟩
theorem dX8_greedySet_1 : uD 1 cX8_greedySet 1 (.iconst 0) 2 := ⟨by decide +kernel, rfl⟩
theorem dX8_greedySet_2 : uD 3 cX8_greedySet 2 (.putfield 49) 5 := ⟨by decide +kernel, rfl⟩
theorem dX8_greedySet_5 : uD 1 cX8_greedySet 5 (.aload_n 0) 6 := ⟨by decide +kernel, rfl⟩
theorem dX8_greedySet_6 : uD 1 cX8_greedySet 6 (.aload_n 0) 7 := ⟨by decide +kernel, rfl⟩
theorem dX8_greedySet_7 : uD 1 cX8_greedySet 7 (.iload_n 1) 8 := ⟨by decide +kernel, rfl⟩
theorem dX8_greedySet_8 : uD 3 cX8_greedySet 8 (.invokevirtual 260) 11 := ⟨by decide +kernel, rfl⟩
theorem dX8_greedySet_11 : uD 1 cX8_greedySet 11 (.iconst 1) 12 := ⟨by decide +kernel, rfl⟩
theorem dX8_greedySet_12 : uD 3 cX8_greedySet 12 (.invokevirtual 55) 15 := ⟨by decide +kernel, rfl⟩
theorem dX8_greedySet_15 : uJ cX8_greedySet 15 (fun o => .ifCond .eq o) 26 18 := ⟨11, by decide +kernel, by decide, rfl⟩
theorem dX8_greedySet_18 : uD 1 cX8_greedySet 18 (.aload_n 0) 19 := ⟨by decide +kernel, rfl⟩
theorem dX8_greedySet_19 : uD 1 cX8_greedySet 19 (.iload_n 1) 20 := ⟨by decide +kernel, rfl⟩
theorem dX8_greedySet_20 : uD 3 cX8_greedySet 20 (.invokevirtual 266) 23 := ⟨by decide +kernel, rfl⟩
theorem dX8_greedySet_23 : uJ cX8_greedySet 23 (fun o => .goto o) 27 26 := ⟨4, by decide +kernel, by decide, rfl⟩
theorem dX8_greedySet_26 : uD 1 cX8_greedySet 26 (.iconst 0) 27 := ⟨by decide +kernel, rfl⟩
theorem dX8_greedySet_27 : uD 1 cX8_greedySet 27 (.ireturn) 28 := ⟨by decide +kernel, rfl⟩
theorem dX8_quality_0 : uD 1 cX8_quality 0 (.aload_n 0) 1 := ⟨by decide +kernel, rfl⟩
theorem dX8_quality_1 : uD 1 cX8_quality 1 (.iconst 0) 2 := ⟨by decide +kernel, rfl⟩
theorem dX8_quality_2 : uD 3 cX8_quality 2 (.putfield 49) 5 := ⟨by decide +kernel, rfl⟩
theorem dX8_quality_5 : uD 1 cX8_quality 5 (.aload_n 0) 6 := ⟨by decide +kernel, rfl⟩
theorem dX8_quality_6 : uD 1 cX8_quality 6 (.aload_n 0) 7 := ⟨by decide +kernel, rfl⟩
theorem dX8_quality_7 : uD 1 cX8_quality 7 (.iload_n 1) 8 := ⟨by decide +kernel, rfl⟩
theorem dX8_quality_8 : uD 3 cX8_quality 8 (.invokevirtual 260) 11 := ⟨by decide +kernel, rfl⟩
theorem dX8_quality_11 : uD 1 cX8_quality 11 (.iconst 1) 12 := ⟨by decide +kernel, rfl⟩
theorem dX8_quality_12 : uD 3 cX8_quality 12 (.invokevirtual 55) 15 := ⟨by decide +kernel, rfl⟩
theorem dX8_quality_15 : uJ cX8_quality 15 (fun o => .ifCond .ne o) 20 18 := ⟨5, by decide +kernel, by decide, rfl⟩
theorem dX8_quality_18 : uD 1 cX8_quality 18 (.dconst 0) 19 := ⟨by decide +kernel, rfl⟩
theorem dX8_quality_19 : uD 1 cX8_quality 19 (.dreturn) 20 := ⟨by decide +kernel, rfl⟩
theorem dX8_quality_20 : uD 1 cX8_quality 20 (.aload_n 0) 21 := ⟨by decide +kernel, rfl⟩
theorem dX8_quality_21 : uD 1 cX8_quality 21 (.aload_n 0) 22 := ⟨by decide +kernel, rfl⟩
theorem dX8_quality_22 : uD 3 cX8_quality 22 (.getfield 7) 25 := ⟨by decide +kernel, rfl⟩
theorem dX8_quality_25 : uD 2 cX8_quality 25 (.bipush 25) 27 := ⟨by decide +kernel, rfl⟩
theorem dX8_quality_27 : uD 1 cX8_quality 27 (.iaload) 28 := ⟨by decide +kernel, rfl⟩
theorem dX8_quality_28 : uD 1 cX8_quality 28 (.iload_n 1) 29 := ⟨by decide +kernel, rfl⟩
theorem dX8_quality_29 : uD 3 cX8_quality 29 (.invokevirtual 263) 32 := ⟨by decide +kernel, rfl⟩
theorem dX8_quality_32 : uD 1 cX8_quality 32 (.istore_n 2) 33 := ⟨by decide +kernel, rfl⟩
theorem dX8_quality_33 : uD 1 cX8_quality 33 (.aload_n 0) 34 := ⟨by decide +kernel, rfl⟩
theorem dX8_quality_34 : uD 1 cX8_quality 34 (.iload_n 2) 35 := ⟨by decide +kernel, rfl⟩
theorem dX8_quality_35 : uJ cX8_quality 35 (fun o => .ifCond .le o) 42 38 := ⟨7, by decide +kernel, by decide, rfl⟩
theorem dX8_quality_38 : uD 1 cX8_quality 38 (.iconst 1) 39 := ⟨by decide +kernel, rfl⟩
theorem dX8_quality_39 : uJ cX8_quality 39 (fun o => .goto o) 43 42 := ⟨4, by decide +kernel, by decide, rfl⟩
theorem dX8_quality_42 : uD 1 cX8_quality 42 (.iconst 0) 43 := ⟨by decide +kernel, rfl⟩
theorem dX8_quality_43 : uD 1 cX8_quality 43 (.iconst 2) 44 := ⟨by decide +kernel, rfl⟩
theorem dX8_quality_44 : uD 3 cX8_quality 44 (.invokevirtual 55) 47 := ⟨by decide +kernel, rfl⟩
theorem dX8_quality_47 : uJ cX8_quality 47 (fun o => .ifCond .eq o) 66 50 := ⟨19, by decide +kernel, by decide, rfl⟩
theorem dX8_quality_50 : uD 1 cX8_quality 50 (.aload_n 0) 51 := ⟨by decide +kernel, rfl⟩
theorem dX8_quality_51 : uD 1 cX8_quality 51 (.aload_n 0) 52 := ⟨by decide +kernel, rfl⟩
theorem dX8_quality_52 : uD 1 cX8_quality 52 (.iload_n 1) 53 := ⟨by decide +kernel, rfl⟩
theorem dX8_quality_53 : uD 3 cX8_quality 53 (.invokevirtual 266) 56 := ⟨by decide +kernel, rfl⟩
theorem dX8_quality_56 : uD 3 cX8_quality 56 (.invokevirtual 187) 59 := ⟨by decide +kernel, rfl⟩
theorem dX8_quality_59 : uD 1 cX8_quality 59 (.i2d) 60 := ⟨by decide +kernel, rfl⟩
theorem dX8_quality_60 : uD 1 cX8_quality 60 (.iload_n 2) 61 := ⟨by decide +kernel, rfl⟩
theorem dX8_quality_61 : uD 1 cX8_quality 61 (.i2d) 62 := ⟨by decide +kernel, rfl⟩
theorem dX8_quality_62 : uD 1 cX8_quality 62 (.ddiv) 63 := ⟨by decide +kernel, rfl⟩
theorem dX8_quality_63 : uJ cX8_quality 63 (fun o => .goto o) 67 66 := ⟨4, by decide +kernel, by decide, rfl⟩
theorem dX8_quality_66 : uD 1 cX8_quality 66 (.dconst 0) 67 := ⟨by decide +kernel, rfl⟩
theorem dX8_quality_67 : uD 1 cX8_quality 67 (.dreturn) 68 := ⟨by decide +kernel, rfl⟩
theorem dX8_energyFor_0 : uD 1 cX8_energyFor 0 (.aload_n 0) 1 := ⟨by decide +kernel, rfl⟩
theorem dX8_energyFor_1 : uD 1 cX8_energyFor 1 (.iconst 0) 2 := ⟨by decide +kernel, rfl⟩
theorem dX8_energyFor_2 : uD 3 cX8_energyFor 2 (.putfield 49) 5 := ⟨by decide +kernel, rfl⟩
theorem dX8_energyFor_5 : uD 1 cX8_energyFor 5 (.aload_n 0) 6 := ⟨by decide +kernel, rfl⟩
theorem dX8_energyFor_6 : uD 1 cX8_energyFor 6 (.iload_n 1) 7 := ⟨by decide +kernel, rfl⟩
theorem dX8_energyFor_7 : uD 1 cX8_energyFor 7 (.iconst 0) 8 := ⟨by decide +kernel, rfl⟩
theorem dX8_energyFor_8 : uD 3 cX8_energyFor 8 (.sipush 2376) 11 := ⟨by decide +kernel, rfl⟩
theorem dX8_energyFor_11 : uD 3 cX8_energyFor 11 (.invokestatic 59) 14 := ⟨by decide +kernel, rfl⟩
theorem dX8_energyFor_14 : uD 1 cX8_energyFor 14 (.iconst 1) 15 := ⟨by decide +kernel, rfl⟩
theorem dX8_energyFor_15 : uD 3 cX8_energyFor 15 (.invokevirtual 55) 18 := ⟨by decide +kernel, rfl⟩
theorem dX8_energyFor_18 : uJ cX8_energyFor 18 (fun o => .ifCond .ne o) 23 21 := ⟨5, by decide +kernel, by decide, rfl⟩
theorem dX8_energyFor_21 : uD 1 cX8_energyFor 21 (.iconst 0) 22 := ⟨by decide +kernel, rfl⟩
theorem dX8_energyFor_22 : uD 1 cX8_energyFor 22 (.ireturn) 23 := ⟨by decide +kernel, rfl⟩
theorem dX8_energyFor_23 : uD 1 cX8_energyFor 23 (.aload_n 0) 24 := ⟨by decide +kernel, rfl⟩
theorem dX8_energyFor_24 : uD 1 cX8_energyFor 24 (.aload_n 0) 25 := ⟨by decide +kernel, rfl⟩
theorem dX8_energyFor_25 : uD 3 cX8_energyFor 25 (.getfield 7) 28 := ⟨by decide +kernel, rfl⟩
theorem dX8_energyFor_28 : uD 2 cX8_energyFor 28 (.bipush 25) 30 := ⟨by decide +kernel, rfl⟩
theorem dX8_energyFor_30 : uD 1 cX8_energyFor 30 (.iaload) 31 := ⟨by decide +kernel, rfl⟩
theorem dX8_energyFor_31 : uD 3 cX8_energyFor 31 (.invokevirtual 224) 34 := ⟨by decide +kernel, rfl⟩
theorem dX8_energyFor_34 : uD 1 cX8_energyFor 34 (.iconst 0) 35 := ⟨by decide +kernel, rfl⟩
theorem dX8_energyFor_35 : uD 1 cX8_energyFor 35 (.istore_n 2) 36 := ⟨by decide +kernel, rfl⟩
theorem dX8_energyFor_36 : uD 1 cX8_energyFor 36 (.iload_n 2) 37 := ⟨by decide +kernel, rfl⟩
theorem dX8_energyFor_37 : uD 3 cX8_energyFor 37 (.sipush 500) 40 := ⟨by decide +kernel, rfl⟩
theorem dX8_energyFor_40 : uJ cX8_energyFor 40 (fun o => .if_icmp .gt o) 60 43 := ⟨20, by decide +kernel, by decide, rfl⟩
theorem dX8_energyFor_43 : uD 1 cX8_energyFor 43 (.aload_n 0) 44 := ⟨by decide +kernel, rfl⟩
theorem dX8_energyFor_44 : uD 1 cX8_energyFor 44 (.iload_n 2) 45 := ⟨by decide +kernel, rfl⟩
theorem dX8_energyFor_45 : uD 3 cX8_energyFor 45 (.invokevirtual 248) 48 := ⟨by decide +kernel, rfl⟩
theorem dX8_energyFor_48 : uD 1 cX8_energyFor 48 (.iload_n 1) 49 := ⟨by decide +kernel, rfl⟩
theorem dX8_energyFor_49 : uJ cX8_energyFor 49 (fun o => .if_icmp .lt o) 54 52 := ⟨5, by decide +kernel, by decide, rfl⟩
theorem dX8_energyFor_52 : uD 1 cX8_energyFor 52 (.iload_n 2) 53 := ⟨by decide +kernel, rfl⟩
theorem dX8_energyFor_53 : uD 1 cX8_energyFor 53 (.ireturn) 54 := ⟨by decide +kernel, rfl⟩
theorem dX8_energyFor_54 : uD 3 cX8_energyFor 54 (.iinc 2 1) 57 := ⟨by decide +kernel, rfl⟩
theorem dX8_energyFor_57 : uJ cX8_energyFor 57 (fun o => .goto o) 36 60 := ⟨(-21), by decide +kernel, by decide, rfl⟩
theorem dX8_energyFor_60 : uD 1 cX8_energyFor 60 (.aload_n 0) 61 := ⟨by decide +kernel, rfl⟩
theorem dX8_energyFor_61 : uD 1 cX8_energyFor 61 (.iconst 2) 62 := ⟨by decide +kernel, rfl⟩
theorem dX8_energyFor_62 : uD 3 cX8_energyFor 62 (.putfield 49) 65 := ⟨by decide +kernel, rfl⟩
theorem dX8_energyFor_65 : uD 1 cX8_energyFor 65 (.iconst 0) 66 := ⟨by decide +kernel, rfl⟩
theorem dX8_energyFor_66 : uD 1 cX8_energyFor 66 (.ireturn) 67 := ⟨by decide +kernel, rfl⟩
theorem dX8_extra_0 : uD 1 cX8_extra 0 (.aload_n 0) 1 := ⟨by decide +kernel, rfl⟩
theorem dX8_extra_1 : uD 1 cX8_extra 1 (.iconst 0) 2 := ⟨by decide +kernel, rfl⟩
theorem dX8_extra_2 : uD 3 cX8_extra 2 (.putfield 49) 5 := ⟨by decide +kernel, rfl⟩
theorem dX8_extra_5 : uD 1 cX8_extra 5 (.aload_n 0) 6 := ⟨by decide +kernel, rfl⟩
theorem dX8_extra_6 : uD 1 cX8_extra 6 (.aload_n 0) 7 := ⟨by decide +kernel, rfl⟩
theorem dX8_extra_7 : uD 1 cX8_extra 7 (.iload_n 1) 8 := ⟨by decide +kernel, rfl⟩
theorem dX8_extra_8 : uD 3 cX8_extra 8 (.invokevirtual 190) 11 := ⟨by decide +kernel, rfl⟩
theorem dX8_extra_11 : uD 1 cX8_extra 11 (.iconst 1) 12 := ⟨by decide +kernel, rfl⟩
theorem dX8_extra_12 : uD 3 cX8_extra 12 (.invokevirtual 55) 15 := ⟨by decide +kernel, rfl⟩
theorem dX8_extra_15 : uJ cX8_extra 15 (fun o => .ifCond .eq o) 43 18 := ⟨28, by decide +kernel, by decide, rfl⟩
theorem dX8_extra_18 : uD 1 cX8_extra 18 (.aload_n 0) 19 := ⟨by decide +kernel, rfl⟩
theorem dX8_extra_19 : uD 1 cX8_extra 19 (.aload_n 0) 20 := ⟨by decide +kernel, rfl⟩
theorem dX8_extra_20 : uD 1 cX8_extra 20 (.aload_n 0) 21 := ⟨by decide +kernel, rfl⟩
theorem dX8_extra_21 : uD 1 cX8_extra 21 (.iload_n 1) 22 := ⟨by decide +kernel, rfl⟩
theorem dX8_extra_22 : uD 3 cX8_extra 22 (.invokevirtual 166) 25 := ⟨by decide +kernel, rfl⟩
theorem dX8_extra_25 : uD 3 cX8_extra 25 (.invokevirtual 169) 28 := ⟨by decide +kernel, rfl⟩
theorem dX8_extra_28 : uJ cX8_extra 28 (fun o => .ifCond .ne o) 35 31 := ⟨7, by decide +kernel, by decide, rfl⟩
theorem dX8_extra_31 : uD 1 cX8_extra 31 (.iconst 1) 32 := ⟨by decide +kernel, rfl⟩
theorem dX8_extra_32 : uJ cX8_extra 32 (fun o => .goto o) 36 35 := ⟨4, by decide +kernel, by decide, rfl⟩
theorem dX8_extra_35 : uD 1 cX8_extra 35 (.iconst 0) 36 := ⟨by decide +kernel, rfl⟩
theorem dX8_extra_36 : uD 1 cX8_extra 36 (.iconst 2) 37 := ⟨by decide +kernel, rfl⟩
theorem dX8_extra_37 : uD 3 cX8_extra 37 (.invokevirtual 55) 40 := ⟨by decide +kernel, rfl⟩
theorem dX8_extra_40 : uJ cX8_extra 40 (fun o => .ifCond .ne o) 45 43 := ⟨5, by decide +kernel, by decide, rfl⟩
theorem dX8_extra_43 : uD 1 cX8_extra 43 (.iconst 0) 44 := ⟨by decide +kernel, rfl⟩
theorem dX8_extra_44 : uD 1 cX8_extra 44 (.ireturn) 45 := ⟨by decide +kernel, rfl⟩
theorem dX8_extra_45 : uD 1 cX8_extra 45 (.aload_n 0) 46 := ⟨by decide +kernel, rfl⟩
theorem dX8_extra_46 : uD 1 cX8_extra 46 (.aload_n 0) 47 := ⟨by decide +kernel, rfl⟩
theorem dX8_extra_47 : uD 3 cX8_extra 47 (.getfield 7) 50 := ⟨by decide +kernel, rfl⟩
theorem dX8_extra_50 : uD 2 cX8_extra 50 (.bipush 25) 52 := ⟨by decide +kernel, rfl⟩
theorem dX8_extra_52 : uD 1 cX8_extra 52 (.iaload) 53 := ⟨by decide +kernel, rfl⟩
theorem dX8_extra_53 : uD 3 cX8_extra 53 (.invokevirtual 224) 56 := ⟨by decide +kernel, rfl⟩
theorem dX8_extra_56 : uD 1 cX8_extra 56 (.aload_n 0) 57 := ⟨by decide +kernel, rfl⟩
theorem dX8_extra_57 : uD 1 cX8_extra 57 (.aload_n 0) 58 := ⟨by decide +kernel, rfl⟩
theorem dX8_extra_58 : uD 3 cX8_extra 58 (.getfield 7) 61 := ⟨by decide +kernel, rfl⟩
theorem dX8_extra_61 : uD 1 cX8_extra 61 (.iconst 1) 62 := ⟨by decide +kernel, rfl⟩
theorem dX8_extra_62 : uD 1 cX8_extra 62 (.iaload) 63 := ⟨by decide +kernel, rfl⟩
theorem dX8_extra_63 : uD 3 cX8_extra 63 (.invokevirtual 227) 66 := ⟨by decide +kernel, rfl⟩
theorem dX8_extra_66 : uD 1 cX8_extra 66 (.istore_n 2) 67 := ⟨by decide +kernel, rfl⟩
theorem dX8_extra_67 : uD 1 cX8_extra 67 (.aload_n 0) 68 := ⟨by decide +kernel, rfl⟩
theorem dX8_extra_68 : uD 1 cX8_extra 68 (.iload_n 2) 69 := ⟨by decide +kernel, rfl⟩
theorem dX8_extra_69 : uD 1 cX8_extra 69 (.iconst 1) 70 := ⟨by decide +kernel, rfl⟩
theorem dX8_extra_70 : uD 1 cX8_extra 70 (.iload_n 1) 71 := ⟨by decide +kernel, rfl⟩
theorem dX8_extra_71 : uD 1 cX8_extra 71 (.ishl) 72 := ⟨by decide +kernel, rfl⟩
theorem dX8_extra_72 : uD 1 cX8_extra 72 (.ior) 73 := ⟨by decide +kernel, rfl⟩
theorem dX8_extra_73 : uD 3 cX8_extra 73 (.invokevirtual 175) 76 := ⟨by decide +kernel, rfl⟩
theorem dX8_extra_76 : uD 1 cX8_extra 76 (.aload_n 0) 77 := ⟨by decide +kernel, rfl⟩
theorem dX8_extra_77 : uD 1 cX8_extra 77 (.iload_n 2) 78 := ⟨by decide +kernel, rfl⟩
theorem dX8_extra_78 : uD 3 cX8_extra 78 (.invokevirtual 175) 81 := ⟨by decide +kernel, rfl⟩
theorem dX8_extra_81 : uD 1 cX8_extra 81 (.isub) 82 := ⟨by decide +kernel, rfl⟩
theorem dX8_extra_82 : uD 1 cX8_extra 82 (.ireturn) 83 := ⟨by decide +kernel, rfl⟩
theorem dX8_keeps_0 : uD 1 cX8_keeps 0 (.iconst 0) 1 := ⟨by decide +kernel, rfl⟩
theorem dX8_keeps_1 : uD 1 cX8_keeps 1 (.istore_n 1) 2 := ⟨by decide +kernel, rfl⟩
theorem dX8_keeps_2 : uD 1 cX8_keeps 2 (.iload_n 1) 3 := ⟨by decide +kernel, rfl⟩
theorem dX8_keeps_3 : uD 2 cX8_keeps 3 (.bipush 109) 5 := ⟨by decide +kernel, rfl⟩
theorem dX8_keeps_5 : uJ cX8_keeps 5 (fun o => .if_icmp .ge o) 26 8 := ⟨21, by decide +kernel, by decide, rfl⟩
theorem dX8_keeps_8 : uD 1 cX8_keeps 8 (.aload_n 0) 9 := ⟨by decide +kernel, rfl⟩
theorem dX8_keeps_9 : uD 3 cX8_keeps 9 (.getfield 19) 12 := ⟨by decide +kernel, rfl⟩
theorem dX8_keeps_12 : uD 1 cX8_keeps 12 (.iload_n 1) 13 := ⟨by decide +kernel, rfl⟩
theorem dX8_keeps_13 : uD 1 cX8_keeps 13 (.aload_n 0) 14 := ⟨by decide +kernel, rfl⟩
theorem dX8_keeps_14 : uD 3 cX8_keeps 14 (.getfield 7) 17 := ⟨by decide +kernel, rfl⟩
theorem dX8_keeps_17 : uD 1 cX8_keeps 17 (.iload_n 1) 18 := ⟨by decide +kernel, rfl⟩
theorem dX8_keeps_18 : uD 1 cX8_keeps 18 (.iaload) 19 := ⟨by decide +kernel, rfl⟩
theorem dX8_keeps_19 : uD 1 cX8_keeps 19 (.iastore) 20 := ⟨by decide +kernel, rfl⟩
theorem dX8_keeps_20 : uD 3 cX8_keeps 20 (.iinc 1 1) 23 := ⟨by decide +kernel, rfl⟩
theorem dX8_keeps_23 : uJ cX8_keeps 23 (fun o => .goto o) 2 26 := ⟨(-21), by decide +kernel, by decide, rfl⟩
theorem dX8_keeps_26 : uD 1 cX8_keeps 26 (.return_) 27 := ⟨by decide +kernel, rfl⟩
theorem dX8_comesBack_0 : uD 1 cX8_comesBack 0 (.iconst 0) 1 := ⟨by decide +kernel, rfl⟩
theorem dX8_comesBack_1 : uD 1 cX8_comesBack 1 (.istore_n 1) 2 := ⟨by decide +kernel, rfl⟩
theorem dX8_comesBack_2 : uD 1 cX8_comesBack 2 (.iload_n 1) 3 := ⟨by decide +kernel, rfl⟩
theorem dX8_comesBack_3 : uD 2 cX8_comesBack 3 (.bipush 109) 5 := ⟨by decide +kernel, rfl⟩
theorem dX8_comesBack_5 : uJ cX8_comesBack 5 (fun o => .if_icmp .ge o) 26 8 := ⟨21, by decide +kernel, by decide, rfl⟩
theorem dX8_comesBack_8 : uD 1 cX8_comesBack 8 (.aload_n 0) 9 := ⟨by decide +kernel, rfl⟩
theorem dX8_comesBack_9 : uD 3 cX8_comesBack 9 (.getfield 7) 12 := ⟨by decide +kernel, rfl⟩
theorem dX8_comesBack_12 : uD 1 cX8_comesBack 12 (.iload_n 1) 13 := ⟨by decide +kernel, rfl⟩
theorem dX8_comesBack_13 : uD 1 cX8_comesBack 13 (.aload_n 0) 14 := ⟨by decide +kernel, rfl⟩
theorem dX8_comesBack_14 : uD 3 cX8_comesBack 14 (.getfield 19) 17 := ⟨by decide +kernel, rfl⟩
theorem dX8_comesBack_17 : uD 1 cX8_comesBack 17 (.iload_n 1) 18 := ⟨by decide +kernel, rfl⟩
theorem dX8_comesBack_18 : uD 1 cX8_comesBack 18 (.iaload) 19 := ⟨by decide +kernel, rfl⟩
theorem dX8_comesBack_19 : uD 1 cX8_comesBack 19 (.iastore) 20 := ⟨by decide +kernel, rfl⟩
theorem dX8_comesBack_20 : uD 3 cX8_comesBack 20 (.iinc 1 1) 23 := ⟨by decide +kernel, rfl⟩
theorem dX8_comesBack_23 : uJ cX8_comesBack 23 (fun o => .goto o) 2 26 := ⟨(-21), by decide +kernel, by decide, rfl⟩
theorem dX8_comesBack_26 : uD 1 cX8_comesBack 26 (.return_) 27 := ⟨by decide +kernel, rfl⟩
theorem dX8_minutesLeft_0 : uD 1 cX8_minutesLeft 0 (.aload_n 0) 1 := ⟨by decide +kernel, rfl⟩
theorem dX8_minutesLeft_1 : uD 1 cX8_minutesLeft 1 (.iconst 0) 2 := ⟨by decide +kernel, rfl⟩
theorem dX8_minutesLeft_2 : uD 3 cX8_minutesLeft 2 (.putfield 49) 5 := ⟨by decide +kernel, rfl⟩
theorem dX8_minutesLeft_5 : uD 1 cX8_minutesLeft 5 (.aload_n 0) 6 := ⟨by decide +kernel, rfl⟩
theorem dX8_minutesLeft_6 : uD 3 cX8_minutesLeft 6 (.invokevirtual 254) 9 := ⟨by decide +kernel, rfl⟩
theorem dX8_minutesLeft_9 : uD 1 cX8_minutesLeft 9 (.istore_n 1) 10 := ⟨by decide +kernel, rfl⟩
theorem dX8_minutesLeft_10 : uD 1 cX8_minutesLeft 10 (.iload_n 1) 11 := ⟨by decide +kernel, rfl⟩
theorem dX8_minutesLeft_11 : uJ cX8_minutesLeft 11 (fun o => .ifCond .eq o) 24 14 := ⟨13, by decide +kernel, by decide, rfl⟩
theorem dX8_minutesLeft_14 : uD 1 cX8_minutesLeft 14 (.iload_n 1) 15 := ⟨by decide +kernel, rfl⟩
theorem dX8_minutesLeft_15 : uD 1 cX8_minutesLeft 15 (.aload_n 0) 16 := ⟨by decide +kernel, rfl⟩
theorem dX8_minutesLeft_16 : uD 3 cX8_minutesLeft 16 (.getfield 7) 19 := ⟨by decide +kernel, rfl⟩
theorem dX8_minutesLeft_19 : uD 1 cX8_minutesLeft 19 (.iconst 1) 20 := ⟨by decide +kernel, rfl⟩
theorem dX8_minutesLeft_20 : uD 1 cX8_minutesLeft 20 (.iaload) 21 := ⟨by decide +kernel, rfl⟩
theorem dX8_minutesLeft_21 : uJ cX8_minutesLeft 21 (fun o => .if_icmp .le o) 26 24 := ⟨5, by decide +kernel, by decide, rfl⟩
theorem dX8_minutesLeft_24 : uD 1 cX8_minutesLeft 24 (.iconst (-1)) 25 := ⟨by decide +kernel, rfl⟩
theorem dX8_minutesLeft_25 : uD 1 cX8_minutesLeft 25 (.ireturn) 26 := ⟨by decide +kernel, rfl⟩
theorem dX8_minutesLeft_26 : uD 1 cX8_minutesLeft 26 (.aload_n 0) 27 := ⟨by decide +kernel, rfl⟩
theorem dX8_minutesLeft_27 : uD 3 cX8_minutesLeft 27 (.invokevirtual 269) 30 := ⟨by decide +kernel, rfl⟩
theorem dX8_minutesLeft_30 : uD 1 cX8_minutesLeft 30 (.iconst (-1)) 31 := ⟨by decide +kernel, rfl⟩
theorem dX8_minutesLeft_31 : uD 1 cX8_minutesLeft 31 (.istore_n 2) 32 := ⟨by decide +kernel, rfl⟩
theorem dX8_minutesLeft_32 : uD 1 cX8_minutesLeft 32 (.aload_n 0) 33 := ⟨by decide +kernel, rfl⟩
theorem dX8_minutesLeft_33 : uD 3 cX8_minutesLeft 33 (.getfield 7) 36 := ⟨by decide +kernel, rfl⟩
theorem dX8_minutesLeft_36 : uD 1 cX8_minutesLeft 36 (.iconst 1) 37 := ⟨by decide +kernel, rfl⟩
theorem dX8_minutesLeft_37 : uD 1 cX8_minutesLeft 37 (.iaload) 38 := ⟨by decide +kernel, rfl⟩
theorem dX8_minutesLeft_38 : uD 1 cX8_minutesLeft 38 (.iload_n 1) 39 := ⟨by decide +kernel, rfl⟩
theorem dX8_minutesLeft_39 : uJ cX8_minutesLeft 39 (fun o => .if_icmp .lt o) 52 42 := ⟨13, by decide +kernel, by decide, rfl⟩
theorem dX8_minutesLeft_42 : uD 3 cX8_minutesLeft 42 (.iinc 2 1) 45 := ⟨by decide +kernel, rfl⟩
theorem dX8_minutesLeft_45 : uD 1 cX8_minutesLeft 45 (.aload_n 0) 46 := ⟨by decide +kernel, rfl⟩
theorem dX8_minutesLeft_46 : uD 3 cX8_minutesLeft 46 (.invokevirtual 218) 49 := ⟨by decide +kernel, rfl⟩
theorem dX8_minutesLeft_49 : uJ cX8_minutesLeft 49 (fun o => .goto o) 32 52 := ⟨(-17), by decide +kernel, by decide, rfl⟩
theorem dX8_minutesLeft_52 : uD 1 cX8_minutesLeft 52 (.aload_n 0) 53 := ⟨by decide +kernel, rfl⟩
theorem dX8_minutesLeft_53 : uD 3 cX8_minutesLeft 53 (.invokevirtual 272) 56 := ⟨by decide +kernel, rfl⟩
theorem dX8_minutesLeft_56 : uD 1 cX8_minutesLeft 56 (.iload_n 2) 57 := ⟨by decide +kernel, rfl⟩
theorem dX8_minutesLeft_57 : uD 1 cX8_minutesLeft 57 (.ireturn) 58 := ⟨by decide +kernel, rfl⟩
theorem dX8_valueAfter_0 : uD 1 cX8_valueAfter 0 (.aload_n 0) 1 := ⟨by decide +kernel, rfl⟩
theorem dX8_valueAfter_1 : uD 1 cX8_valueAfter 1 (.iconst 0) 2 := ⟨by decide +kernel, rfl⟩
theorem dX8_valueAfter_2 : uD 3 cX8_valueAfter 2 (.putfield 49) 5 := ⟨by decide +kernel, rfl⟩
theorem dX8_valueAfter_5 : uD 1 cX8_valueAfter 5 (.aload_n 0) 6 := ⟨by decide +kernel, rfl⟩
theorem dX8_valueAfter_6 : uD 1 cX8_valueAfter 6 (.iload_n 1) 7 := ⟨by decide +kernel, rfl⟩
theorem dX8_valueAfter_7 : uD 1 cX8_valueAfter 7 (.iconst 0) 8 := ⟨by decide +kernel, rfl⟩
theorem dX8_valueAfter_8 : uD 3 cX8_valueAfter 8 (.sipush 1000) 11 := ⟨by decide +kernel, rfl⟩
theorem dX8_valueAfter_11 : uD 3 cX8_valueAfter 11 (.invokestatic 59) 14 := ⟨by decide +kernel, rfl⟩
theorem dX8_valueAfter_14 : uD 1 cX8_valueAfter 14 (.iconst 1) 15 := ⟨by decide +kernel, rfl⟩
theorem dX8_valueAfter_15 : uD 3 cX8_valueAfter 15 (.invokevirtual 55) 18 := ⟨by decide +kernel, rfl⟩
theorem dX8_valueAfter_18 : uJ cX8_valueAfter 18 (fun o => .ifCond .ne o) 23 21 := ⟨5, by decide +kernel, by decide, rfl⟩
theorem dX8_valueAfter_21 : uD 1 cX8_valueAfter 21 (.iconst 0) 22 := ⟨by decide +kernel, rfl⟩
theorem dX8_valueAfter_22 : uD 1 cX8_valueAfter 22 (.ireturn) 23 := ⟨by decide +kernel, rfl⟩
theorem dX8_valueAfter_23 : uD 1 cX8_valueAfter 23 (.aload_n 0) 24 := ⟨by decide +kernel, rfl⟩
theorem dX8_valueAfter_24 : uD 3 cX8_valueAfter 24 (.invokevirtual 269) 27 := ⟨by decide +kernel, rfl⟩
theorem dX8_valueAfter_27 : uD 1 cX8_valueAfter 27 (.iconst 0) 28 := ⟨by decide +kernel, rfl⟩
theorem dX8_valueAfter_28 : uD 1 cX8_valueAfter 28 (.istore_n 2) 29 := ⟨by decide +kernel, rfl⟩
theorem dX8_valueAfter_29 : uD 1 cX8_valueAfter 29 (.iload_n 2) 30 := ⟨by decide +kernel, rfl⟩
theorem dX8_valueAfter_30 : uD 1 cX8_valueAfter 30 (.iload_n 1) 31 := ⟨by decide +kernel, rfl⟩
theorem dX8_valueAfter_31 : uJ cX8_valueAfter 31 (fun o => .if_icmp .ge o) 53 34 := ⟨22, by decide +kernel, by decide, rfl⟩
theorem dX8_valueAfter_34 : uD 1 cX8_valueAfter 34 (.aload_n 0) 35 := ⟨by decide +kernel, rfl⟩
theorem dX8_valueAfter_35 : uD 3 cX8_valueAfter 35 (.getfield 7) 38 := ⟨by decide +kernel, rfl⟩
theorem dX8_valueAfter_38 : uD 1 cX8_valueAfter 38 (.iconst 1) 39 := ⟨by decide +kernel, rfl⟩
theorem dX8_valueAfter_39 : uD 1 cX8_valueAfter 39 (.iaload) 40 := ⟨by decide +kernel, rfl⟩
theorem dX8_valueAfter_40 : uJ cX8_valueAfter 40 (fun o => .ifCond .le o) 53 43 := ⟨13, by decide +kernel, by decide, rfl⟩
theorem dX8_valueAfter_43 : uD 1 cX8_valueAfter 43 (.aload_n 0) 44 := ⟨by decide +kernel, rfl⟩
theorem dX8_valueAfter_44 : uD 3 cX8_valueAfter 44 (.invokevirtual 218) 47 := ⟨by decide +kernel, rfl⟩
theorem dX8_valueAfter_47 : uD 3 cX8_valueAfter 47 (.iinc 2 1) 50 := ⟨by decide +kernel, rfl⟩
theorem dX8_valueAfter_50 : uJ cX8_valueAfter 50 (fun o => .goto o) 29 53 := ⟨(-21), by decide +kernel, by decide, rfl⟩
theorem dX8_valueAfter_53 : uD 1 cX8_valueAfter 53 (.aload_n 0) 54 := ⟨by decide +kernel, rfl⟩
theorem dX8_valueAfter_54 : uD 3 cX8_valueAfter 54 (.getfield 7) 57 := ⟨by decide +kernel, rfl⟩
theorem dX8_valueAfter_57 : uD 1 cX8_valueAfter 57 (.iconst 1) 58 := ⟨by decide +kernel, rfl⟩
theorem dX8_valueAfter_58 : uD 1 cX8_valueAfter 58 (.iaload) 59 := ⟨by decide +kernel, rfl⟩
theorem dX8_valueAfter_59 : uJ cX8_valueAfter 59 (fun o => .ifCond .ne o) 66 62 := ⟨7, by decide +kernel, by decide, rfl⟩
theorem dX8_valueAfter_62 : uD 1 cX8_valueAfter 62 (.iconst 0) 63 := ⟨by decide +kernel, rfl⟩
theorem dX8_valueAfter_63 : uJ cX8_valueAfter 63 (fun o => .goto o) 83 66 := ⟨20, by decide +kernel, by decide, rfl⟩
theorem dX8_valueAfter_66 : uD 1 cX8_valueAfter 66 (.aload_n 0) 67 := ⟨by decide +kernel, rfl⟩
theorem dX8_valueAfter_67 : uD 1 cX8_valueAfter 67 (.aload_n 0) 68 := ⟨by decide +kernel, rfl⟩
theorem dX8_valueAfter_68 : uD 3 cX8_valueAfter 68 (.getfield 7) 71 := ⟨by decide +kernel, rfl⟩
theorem dX8_valueAfter_71 : uD 2 cX8_valueAfter 71 (.bipush 25) 73 := ⟨by decide +kernel, rfl⟩
theorem dX8_valueAfter_73 : uD 1 cX8_valueAfter 73 (.iaload) 74 := ⟨by decide +kernel, rfl⟩
theorem dX8_valueAfter_74 : uD 1 cX8_valueAfter 74 (.aload_n 0) 75 := ⟨by decide +kernel, rfl⟩
theorem dX8_valueAfter_75 : uD 3 cX8_valueAfter 75 (.getfield 7) 78 := ⟨by decide +kernel, rfl⟩
theorem dX8_valueAfter_78 : uD 1 cX8_valueAfter 78 (.iconst 1) 79 := ⟨by decide +kernel, rfl⟩
theorem dX8_valueAfter_79 : uD 1 cX8_valueAfter 79 (.iaload) 80 := ⟨by decide +kernel, rfl⟩
theorem dX8_valueAfter_80 : uD 3 cX8_valueAfter 80 (.invokevirtual 263) 83 := ⟨by decide +kernel, rfl⟩
theorem dX8_valueAfter_83 : uD 1 cX8_valueAfter 83 (.istore_n 2) 84 := ⟨by decide +kernel, rfl⟩
theorem dX8_valueAfter_84 : uD 1 cX8_valueAfter 84 (.aload_n 0) 85 := ⟨by decide +kernel, rfl⟩
theorem dX8_valueAfter_85 : uD 3 cX8_valueAfter 85 (.invokevirtual 272) 88 := ⟨by decide +kernel, rfl⟩
theorem dX8_valueAfter_88 : uD 1 cX8_valueAfter 88 (.iload_n 2) 89 := ⟨by decide +kernel, rfl⟩
theorem dX8_valueAfter_89 : uD 1 cX8_valueAfter 89 (.ireturn) 90 := ⟨by decide +kernel, rfl⟩
theorem dX8_minutesToSafety_0 : uD 1 cX8_minutesToSafety 0 (.aload_n 0) 1 := ⟨by decide +kernel, rfl⟩
theorem dX8_minutesToSafety_1 : uD 1 cX8_minutesToSafety 1 (.iconst 0) 2 := ⟨by decide +kernel, rfl⟩
theorem dX8_minutesToSafety_2 : uD 3 cX8_minutesToSafety 2 (.putfield 49) 5 := ⟨by decide +kernel, rfl⟩
theorem dX8_minutesToSafety_5 : uD 1 cX8_minutesToSafety 5 (.aload_n 0) 6 := ⟨by decide +kernel, rfl⟩
theorem dX8_minutesToSafety_6 : uD 3 cX8_minutesToSafety 6 (.invokevirtual 254) 9 := ⟨by decide +kernel, rfl⟩
theorem dX8_minutesToSafety_9 : uD 1 cX8_minutesToSafety 9 (.aload_n 0) 10 := ⟨by decide +kernel, rfl⟩
theorem dX8_minutesToSafety_10 : uD 3 cX8_minutesToSafety 10 (.getfield 7) 13 := ⟨by decide +kernel, rfl⟩
theorem dX8_minutesToSafety_13 : uD 1 cX8_minutesToSafety 13 (.iconst 5) 14 := ⟨by decide +kernel, rfl⟩
theorem dX8_minutesToSafety_14 : uD 1 cX8_minutesToSafety 14 (.iaload) 15 := ⟨by decide +kernel, rfl⟩
theorem dX8_minutesToSafety_15 : uD 1 cX8_minutesToSafety 15 (.iadd) 16 := ⟨by decide +kernel, rfl⟩
theorem dX8_minutesToSafety_16 : uD 1 cX8_minutesToSafety 16 (.istore_n 1) 17 := ⟨by decide +kernel, rfl⟩
theorem dX8_minutesToSafety_17 : uD 1 cX8_minutesToSafety 17 (.aload_n 0) 18 := ⟨by decide +kernel, rfl⟩
theorem dX8_minutesToSafety_18 : uD 3 cX8_minutesToSafety 18 (.getfield 7) 21 := ⟨by decide +kernel, rfl⟩
theorem dX8_minutesToSafety_21 : uD 1 cX8_minutesToSafety 21 (.iconst 1) 22 := ⟨by decide +kernel, rfl⟩
theorem dX8_minutesToSafety_22 : uD 1 cX8_minutesToSafety 22 (.iaload) 23 := ⟨by decide +kernel, rfl⟩
theorem dX8_minutesToSafety_23 : uD 1 cX8_minutesToSafety 23 (.iload_n 1) 24 := ⟨by decide +kernel, rfl⟩
theorem dX8_minutesToSafety_24 : uJ cX8_minutesToSafety 24 (fun o => .if_icmp .lt o) 29 27 := ⟨5, by decide +kernel, by decide, rfl⟩
theorem dX8_minutesToSafety_27 : uD 1 cX8_minutesToSafety 27 (.iconst 0) 28 := ⟨by decide +kernel, rfl⟩
theorem dX8_minutesToSafety_28 : uD 1 cX8_minutesToSafety 28 (.ireturn) 29 := ⟨by decide +kernel, rfl⟩
theorem dX8_minutesToSafety_29 : uD 1 cX8_minutesToSafety 29 (.iload_n 1) 30 := ⟨by decide +kernel, rfl⟩
theorem dX8_minutesToSafety_30 : uD 1 cX8_minutesToSafety 30 (.aload_n 0) 31 := ⟨by decide +kernel, rfl⟩
theorem dX8_minutesToSafety_31 : uD 3 cX8_minutesToSafety 31 (.getfield 7) 34 := ⟨by decide +kernel, rfl⟩
theorem dX8_minutesToSafety_34 : uD 1 cX8_minutesToSafety 34 (.iconst 0) 35 := ⟨by decide +kernel, rfl⟩
theorem dX8_minutesToSafety_35 : uD 1 cX8_minutesToSafety 35 (.iaload) 36 := ⟨by decide +kernel, rfl⟩
theorem dX8_minutesToSafety_36 : uJ cX8_minutesToSafety 36 (fun o => .if_icmp .gt o) 48 39 := ⟨12, by decide +kernel, by decide, rfl⟩
theorem dX8_minutesToSafety_39 : uD 1 cX8_minutesToSafety 39 (.aload_n 0) 40 := ⟨by decide +kernel, rfl⟩
theorem dX8_minutesToSafety_40 : uD 3 cX8_minutesToSafety 40 (.getfield 7) 43 := ⟨by decide +kernel, rfl⟩
theorem dX8_minutesToSafety_43 : uD 1 cX8_minutesToSafety 43 (.iconst 2) 44 := ⟨by decide +kernel, rfl⟩
theorem dX8_minutesToSafety_44 : uD 1 cX8_minutesToSafety 44 (.iaload) 45 := ⟨by decide +kernel, rfl⟩
theorem dX8_minutesToSafety_45 : uJ cX8_minutesToSafety 45 (fun o => .ifCond .ne o) 50 48 := ⟨5, by decide +kernel, by decide, rfl⟩
theorem dX8_minutesToSafety_48 : uD 1 cX8_minutesToSafety 48 (.iconst (-1)) 49 := ⟨by decide +kernel, rfl⟩
theorem dX8_minutesToSafety_49 : uD 1 cX8_minutesToSafety 49 (.ireturn) 50 := ⟨by decide +kernel, rfl⟩
theorem dX8_minutesToSafety_50 : uD 1 cX8_minutesToSafety 50 (.iload_n 1) 51 := ⟨by decide +kernel, rfl⟩
theorem dX8_minutesToSafety_51 : uD 1 cX8_minutesToSafety 51 (.aload_n 0) 52 := ⟨by decide +kernel, rfl⟩
theorem dX8_minutesToSafety_52 : uD 3 cX8_minutesToSafety 52 (.getfield 7) 55 := ⟨by decide +kernel, rfl⟩
theorem dX8_minutesToSafety_55 : uD 1 cX8_minutesToSafety 55 (.iconst 1) 56 := ⟨by decide +kernel, rfl⟩
theorem dX8_minutesToSafety_56 : uD 1 cX8_minutesToSafety 56 (.iaload) 57 := ⟨by decide +kernel, rfl⟩
theorem dX8_minutesToSafety_57 : uD 1 cX8_minutesToSafety 57 (.isub) 58 := ⟨by decide +kernel, rfl⟩
theorem dX8_minutesToSafety_58 : uD 1 cX8_minutesToSafety 58 (.aload_n 0) 59 := ⟨by decide +kernel, rfl⟩
theorem dX8_minutesToSafety_59 : uD 3 cX8_minutesToSafety 59 (.getfield 7) 62 := ⟨by decide +kernel, rfl⟩
theorem dX8_minutesToSafety_62 : uD 1 cX8_minutesToSafety 62 (.iconst 2) 63 := ⟨by decide +kernel, rfl⟩
theorem dX8_minutesToSafety_63 : uD 1 cX8_minutesToSafety 63 (.iaload) 64 := ⟨by decide +kernel, rfl⟩
theorem dX8_minutesToSafety_64 : uD 1 cX8_minutesToSafety 64 (.iadd) 65 := ⟨by decide +kernel, rfl⟩
theorem dX8_minutesToSafety_65 : uD 1 cX8_minutesToSafety 65 (.iconst 1) 66 := ⟨by decide +kernel, rfl⟩
theorem dX8_minutesToSafety_66 : uD 1 cX8_minutesToSafety 66 (.isub) 67 := ⟨by decide +kernel, rfl⟩
theorem dX8_minutesToSafety_67 : uD 1 cX8_minutesToSafety 67 (.aload_n 0) 68 := ⟨by decide +kernel, rfl⟩
theorem dX8_minutesToSafety_68 : uD 3 cX8_minutesToSafety 68 (.getfield 7) 71 := ⟨by decide +kernel, rfl⟩
theorem dX8_minutesToSafety_71 : uD 1 cX8_minutesToSafety 71 (.iconst 2) 72 := ⟨by decide +kernel, rfl⟩
theorem dX8_minutesToSafety_72 : uD 1 cX8_minutesToSafety 72 (.iaload) 73 := ⟨by decide +kernel, rfl⟩
theorem dX8_minutesToSafety_73 : uD 1 cX8_minutesToSafety 73 (.idiv) 74 := ⟨by decide +kernel, rfl⟩
theorem dX8_minutesToSafety_74 : uD 1 cX8_minutesToSafety 74 (.ireturn) 75 := ⟨by decide +kernel, rfl⟩
theorem dX8_gainOfRepair_0 : uD 1 cX8_gainOfRepair 0 (.aload_n 0) 1 := ⟨by decide +kernel, rfl⟩
theorem dX8_gainOfRepair_1 : uD 1 cX8_gainOfRepair 1 (.iconst 0) 2 := ⟨by decide +kernel, rfl⟩
theorem dX8_gainOfRepair_2 : uD 3 cX8_gainOfRepair 2 (.putfield 49) 5 := ⟨by decide +kernel, rfl⟩
theorem dX8_gainOfRepair_5 : uD 1 cX8_gainOfRepair 5 (.aload_n 0) 6 := ⟨by decide +kernel, rfl⟩
theorem dX8_gainOfRepair_6 : uD 1 cX8_gainOfRepair 6 (.aload_n 0) 7 := ⟨by decide +kernel, rfl⟩
theorem dX8_gainOfRepair_7 : uD 1 cX8_gainOfRepair 7 (.iload_n 1) 8 := ⟨by decide +kernel, rfl⟩
theorem dX8_gainOfRepair_8 : uD 3 cX8_gainOfRepair 8 (.invokevirtual 178) 11 := ⟨by decide +kernel, rfl⟩
theorem dX8_gainOfRepair_11 : uD 1 cX8_gainOfRepair 11 (.iconst 1) 12 := ⟨by decide +kernel, rfl⟩
theorem dX8_gainOfRepair_12 : uD 3 cX8_gainOfRepair 12 (.invokevirtual 55) 15 := ⟨by decide +kernel, rfl⟩
theorem dX8_gainOfRepair_15 : uJ cX8_gainOfRepair 15 (fun o => .ifCond .ne o) 20 18 := ⟨5, by decide +kernel, by decide, rfl⟩
theorem dX8_gainOfRepair_18 : uD 1 cX8_gainOfRepair 18 (.iconst 0) 19 := ⟨by decide +kernel, rfl⟩
theorem dX8_gainOfRepair_19 : uD 1 cX8_gainOfRepair 19 (.ireturn) 20 := ⟨by decide +kernel, rfl⟩
theorem dX8_gainOfRepair_20 : uD 1 cX8_gainOfRepair 20 (.aload_n 0) 21 := ⟨by decide +kernel, rfl⟩
theorem dX8_gainOfRepair_21 : uD 1 cX8_gainOfRepair 21 (.aload_n 0) 22 := ⟨by decide +kernel, rfl⟩
theorem dX8_gainOfRepair_22 : uD 3 cX8_gainOfRepair 22 (.getfield 7) 25 := ⟨by decide +kernel, rfl⟩
theorem dX8_gainOfRepair_25 : uD 2 cX8_gainOfRepair 25 (.bipush 25) 27 := ⟨by decide +kernel, rfl⟩
theorem dX8_gainOfRepair_27 : uD 1 cX8_gainOfRepair 27 (.iaload) 28 := ⟨by decide +kernel, rfl⟩
theorem dX8_gainOfRepair_28 : uD 1 cX8_gainOfRepair 28 (.aload_n 0) 29 := ⟨by decide +kernel, rfl⟩
theorem dX8_gainOfRepair_29 : uD 3 cX8_gainOfRepair 29 (.getfield 7) 32 := ⟨by decide +kernel, rfl⟩
theorem dX8_gainOfRepair_32 : uD 1 cX8_gainOfRepair 32 (.iconst 1) 33 := ⟨by decide +kernel, rfl⟩
theorem dX8_gainOfRepair_33 : uD 1 cX8_gainOfRepair 33 (.iaload) 34 := ⟨by decide +kernel, rfl⟩
theorem dX8_gainOfRepair_34 : uD 3 cX8_gainOfRepair 34 (.invokevirtual 263) 37 := ⟨by decide +kernel, rfl⟩
theorem dX8_gainOfRepair_37 : uD 1 cX8_gainOfRepair 37 (.istore_n 2) 38 := ⟨by decide +kernel, rfl⟩
theorem dX8_gainOfRepair_38 : uD 1 cX8_gainOfRepair 38 (.aload_n 0) 39 := ⟨by decide +kernel, rfl⟩
theorem dX8_gainOfRepair_39 : uD 1 cX8_gainOfRepair 39 (.aload_n 0) 40 := ⟨by decide +kernel, rfl⟩
theorem dX8_gainOfRepair_40 : uD 3 cX8_gainOfRepair 40 (.getfield 7) 43 := ⟨by decide +kernel, rfl⟩
theorem dX8_gainOfRepair_43 : uD 2 cX8_gainOfRepair 43 (.bipush 25) 45 := ⟨by decide +kernel, rfl⟩
theorem dX8_gainOfRepair_45 : uD 1 cX8_gainOfRepair 45 (.iaload) 46 := ⟨by decide +kernel, rfl⟩
theorem dX8_gainOfRepair_46 : uD 1 cX8_gainOfRepair 46 (.iconst 1) 47 := ⟨by decide +kernel, rfl⟩
theorem dX8_gainOfRepair_47 : uD 1 cX8_gainOfRepair 47 (.iload_n 1) 48 := ⟨by decide +kernel, rfl⟩
theorem dX8_gainOfRepair_48 : uD 1 cX8_gainOfRepair 48 (.ishl) 49 := ⟨by decide +kernel, rfl⟩
theorem dX8_gainOfRepair_49 : uD 1 cX8_gainOfRepair 49 (.iconst (-1)) 50 := ⟨by decide +kernel, rfl⟩
theorem dX8_gainOfRepair_50 : uD 1 cX8_gainOfRepair 50 (.ixor) 51 := ⟨by decide +kernel, rfl⟩
theorem dX8_gainOfRepair_51 : uD 1 cX8_gainOfRepair 51 (.iand) 52 := ⟨by decide +kernel, rfl⟩
theorem dX8_gainOfRepair_52 : uD 1 cX8_gainOfRepair 52 (.aload_n 0) 53 := ⟨by decide +kernel, rfl⟩
theorem dX8_gainOfRepair_53 : uD 3 cX8_gainOfRepair 53 (.getfield 7) 56 := ⟨by decide +kernel, rfl⟩
theorem dX8_gainOfRepair_56 : uD 1 cX8_gainOfRepair 56 (.iconst 1) 57 := ⟨by decide +kernel, rfl⟩
theorem dX8_gainOfRepair_57 : uD 1 cX8_gainOfRepair 57 (.iaload) 58 := ⟨by decide +kernel, rfl⟩
theorem dX8_gainOfRepair_58 : uD 3 cX8_gainOfRepair 58 (.invokevirtual 263) 61 := ⟨by decide +kernel, rfl⟩
theorem dX8_gainOfRepair_61 : uD 1 cX8_gainOfRepair 61 (.iload_n 2) 62 := ⟨by decide +kernel, rfl⟩
theorem dX8_gainOfRepair_62 : uD 1 cX8_gainOfRepair 62 (.isub) 63 := ⟨by decide +kernel, rfl⟩
theorem dX8_gainOfRepair_63 : uD 1 cX8_gainOfRepair 63 (.ireturn) 64 := ⟨by decide +kernel, rfl⟩
theorem dX8_costliest_0 : uD 1 cX8_costliest 0 (.aload_n 0) 1 := ⟨by decide +kernel, rfl⟩
theorem dX8_costliest_1 : uD 1 cX8_costliest 1 (.iconst 0) 2 := ⟨by decide +kernel, rfl⟩
theorem dX8_costliest_2 : uD 3 cX8_costliest 2 (.putfield 49) 5 := ⟨by decide +kernel, rfl⟩
theorem dX8_costliest_5 : uD 1 cX8_costliest 5 (.iconst (-1)) 6 := ⟨by decide +kernel, rfl⟩
theorem dX8_costliest_6 : uD 1 cX8_costliest 6 (.istore_n 1) 7 := ⟨by decide +kernel, rfl⟩
theorem dX8_costliest_7 : uD 1 cX8_costliest 7 (.iconst 0) 8 := ⟨by decide +kernel, rfl⟩
theorem dX8_costliest_8 : uD 1 cX8_costliest 8 (.istore_n 2) 9 := ⟨by decide +kernel, rfl⟩
theorem dX8_costliest_9 : uD 1 cX8_costliest 9 (.iload_n 2) 10 := ⟨by decide +kernel, rfl⟩
theorem dX8_costliest_10 : uD 1 cX8_costliest 10 (.aload_n 0) 11 := ⟨by decide +kernel, rfl⟩
theorem dX8_costliest_11 : uD 3 cX8_costliest 11 (.getfield 7) 14 := ⟨by decide +kernel, rfl⟩
theorem dX8_costliest_14 : uD 2 cX8_costliest 14 (.bipush 9) 16 := ⟨by decide +kernel, rfl⟩
theorem dX8_costliest_16 : uD 1 cX8_costliest 16 (.iaload) 17 := ⟨by decide +kernel, rfl⟩
theorem dX8_costliest_17 : uJ cX8_costliest 17 (fun o => .if_icmp .ge o) 97 20 := ⟨80, by decide +kernel, by decide, rfl⟩
theorem dX8_costliest_20 : uD 1 cX8_costliest 20 (.aload_n 0) 21 := ⟨by decide +kernel, rfl⟩
theorem dX8_costliest_21 : uD 1 cX8_costliest 21 (.iload_n 2) 22 := ⟨by decide +kernel, rfl⟩
theorem dX8_costliest_22 : uD 3 cX8_costliest 22 (.invokevirtual 181) 25 := ⟨by decide +kernel, rfl⟩
theorem dX8_costliest_25 : uD 1 cX8_costliest 25 (.istore_n 3) 26 := ⟨by decide +kernel, rfl⟩
theorem dX8_costliest_26 : uD 1 cX8_costliest 26 (.iload_n 3) 27 := ⟨by decide +kernel, rfl⟩
theorem dX8_costliest_27 : uJ cX8_costliest 27 (fun o => .ifCond .eq o) 91 30 := ⟨64, by decide +kernel, by decide, rfl⟩
theorem dX8_costliest_30 : uD 1 cX8_costliest 30 (.aload_n 0) 31 := ⟨by decide +kernel, rfl⟩
theorem dX8_costliest_31 : uD 1 cX8_costliest 31 (.iload_n 2) 32 := ⟨by decide +kernel, rfl⟩
theorem dX8_costliest_32 : uD 3 cX8_costliest 32 (.invokevirtual 169) 35 := ⟨by decide +kernel, rfl⟩
theorem dX8_costliest_35 : uJ cX8_costliest 35 (fun o => .ifCond .eq o) 41 38 := ⟨6, by decide +kernel, by decide, rfl⟩
theorem dX8_costliest_38 : uJ cX8_costliest 38 (fun o => .goto o) 91 41 := ⟨53, by decide +kernel, by decide, rfl⟩
theorem dX8_costliest_41 : uD 1 cX8_costliest 41 (.iload_n 1) 42 := ⟨by decide +kernel, rfl⟩
theorem dX8_costliest_42 : uD 1 cX8_costliest 42 (.iconst (-1)) 43 := ⟨by decide +kernel, rfl⟩
theorem dX8_costliest_43 : uJ cX8_costliest 43 (fun o => .if_icmp .ne o) 50 46 := ⟨7, by decide +kernel, by decide, rfl⟩
theorem dX8_costliest_46 : uD 1 cX8_costliest 46 (.iconst 0) 47 := ⟨by decide +kernel, rfl⟩
theorem dX8_costliest_47 : uJ cX8_costliest 47 (fun o => .goto o) 55 50 := ⟨8, by decide +kernel, by decide, rfl⟩
theorem dX8_costliest_50 : uD 1 cX8_costliest 50 (.aload_n 0) 51 := ⟨by decide +kernel, rfl⟩
theorem dX8_costliest_51 : uD 1 cX8_costliest 51 (.iload_n 1) 52 := ⟨by decide +kernel, rfl⟩
theorem dX8_costliest_52 : uD 3 cX8_costliest 52 (.invokevirtual 181) 55 := ⟨by decide +kernel, rfl⟩
theorem dX8_costliest_55 : uD 2 cX8_costliest 55 (.istore 4) 57 := ⟨by decide +kernel, rfl⟩
theorem dX8_costliest_57 : uD 1 cX8_costliest 57 (.iload_n 1) 58 := ⟨by decide +kernel, rfl⟩
theorem dX8_costliest_58 : uD 1 cX8_costliest 58 (.iconst (-1)) 59 := ⟨by decide +kernel, rfl⟩
theorem dX8_costliest_59 : uJ cX8_costliest 59 (fun o => .if_icmp .eq o) 89 62 := ⟨30, by decide +kernel, by decide, rfl⟩
theorem dX8_costliest_62 : uD 1 cX8_costliest 62 (.aload_n 0) 63 := ⟨by decide +kernel, rfl⟩
theorem dX8_costliest_63 : uD 1 cX8_costliest 63 (.iload_n 3) 64 := ⟨by decide +kernel, rfl⟩
theorem dX8_costliest_64 : uD 3 cX8_costliest 64 (.invokevirtual 175) 67 := ⟨by decide +kernel, rfl⟩
theorem dX8_costliest_67 : uD 1 cX8_costliest 67 (.aload_n 0) 68 := ⟨by decide +kernel, rfl⟩
theorem dX8_costliest_68 : uD 2 cX8_costliest 68 (.iload 4) 70 := ⟨by decide +kernel, rfl⟩
theorem dX8_costliest_70 : uD 3 cX8_costliest 70 (.invokevirtual 187) 73 := ⟨by decide +kernel, rfl⟩
theorem dX8_costliest_73 : uD 1 cX8_costliest 73 (.imul) 74 := ⟨by decide +kernel, rfl⟩
theorem dX8_costliest_74 : uD 1 cX8_costliest 74 (.aload_n 0) 75 := ⟨by decide +kernel, rfl⟩
theorem dX8_costliest_75 : uD 2 cX8_costliest 75 (.iload 4) 77 := ⟨by decide +kernel, rfl⟩
theorem dX8_costliest_77 : uD 3 cX8_costliest 77 (.invokevirtual 175) 80 := ⟨by decide +kernel, rfl⟩
theorem dX8_costliest_80 : uD 1 cX8_costliest 80 (.aload_n 0) 81 := ⟨by decide +kernel, rfl⟩
theorem dX8_costliest_81 : uD 1 cX8_costliest 81 (.iload_n 3) 82 := ⟨by decide +kernel, rfl⟩
theorem dX8_costliest_82 : uD 3 cX8_costliest 82 (.invokevirtual 187) 85 := ⟨by decide +kernel, rfl⟩
theorem dX8_costliest_85 : uD 1 cX8_costliest 85 (.imul) 86 := ⟨by decide +kernel, rfl⟩
theorem dX8_costliest_86 : uJ cX8_costliest 86 (fun o => .if_icmp .le o) 91 89 := ⟨5, by decide +kernel, by decide, rfl⟩
theorem dX8_costliest_89 : uD 1 cX8_costliest 89 (.iload_n 2) 90 := ⟨by decide +kernel, rfl⟩
theorem dX8_costliest_90 : uD 1 cX8_costliest 90 (.istore_n 1) 91 := ⟨by decide +kernel, rfl⟩
theorem dX8_costliest_91 : uD 3 cX8_costliest 91 (.iinc 2 1) 94 := ⟨by decide +kernel, rfl⟩
theorem dX8_costliest_94 : uJ cX8_costliest 94 (fun o => .goto o) 9 97 := ⟨(-85), by decide +kernel, by decide, rfl⟩
theorem dX8_costliest_97 : uD 1 cX8_costliest 97 (.aload_n 0) 98 := ⟨by decide +kernel, rfl⟩
theorem dX8_costliest_98 : uD 1 cX8_costliest 98 (.iload_n 1) 99 := ⟨by decide +kernel, rfl⟩
theorem dX8_costliest_99 : uD 1 cX8_costliest 99 (.iconst (-1)) 100 := ⟨by decide +kernel, rfl⟩
theorem dX8_costliest_100 : uJ cX8_costliest 100 (fun o => .if_icmp .eq o) 107 103 := ⟨7, by decide +kernel, by decide, rfl⟩
theorem dX8_costliest_103 : uD 1 cX8_costliest 103 (.iconst 1) 104 := ⟨by decide +kernel, rfl⟩
theorem dX8_costliest_104 : uJ cX8_costliest 104 (fun o => .goto o) 108 107 := ⟨4, by decide +kernel, by decide, rfl⟩
theorem dX8_costliest_107 : uD 1 cX8_costliest 107 (.iconst 0) 108 := ⟨by decide +kernel, rfl⟩
theorem dX8_costliest_108 : uD 1 cX8_costliest 108 (.iconst 1) 109 := ⟨by decide +kernel, rfl⟩
theorem dX8_costliest_109 : uD 3 cX8_costliest 109 (.invokevirtual 55) 112 := ⟨by decide +kernel, rfl⟩
theorem dX8_costliest_112 : uJ cX8_costliest 112 (fun o => .ifCond .eq o) 119 115 := ⟨7, by decide +kernel, by decide, rfl⟩
theorem dX8_costliest_115 : uD 1 cX8_costliest 115 (.iload_n 1) 116 := ⟨by decide +kernel, rfl⟩
theorem dX8_costliest_116 : uJ cX8_costliest 116 (fun o => .goto o) 120 119 := ⟨4, by decide +kernel, by decide, rfl⟩
theorem dX8_costliest_119 : uD 1 cX8_costliest 119 (.iconst 0) 120 := ⟨by decide +kernel, rfl⟩
theorem dX8_costliest_120 : uD 1 cX8_costliest 120 (.ireturn) 121 := ⟨by decide +kernel, rfl⟩
theorem dX8_save_0 : uD 1 cX8_save 0 (.aload_n 0) 1 := ⟨by decide +kernel, rfl⟩
theorem dX8_save_1 : uD 1 cX8_save 1 (.iconst 0) 2 := ⟨by decide +kernel, rfl⟩
theorem dX8_save_2 : uD 3 cX8_save 2 (.putfield 49) 5 := ⟨by decide +kernel, rfl⟩
theorem dX8_save_5 : uD 1 cX8_save 5 (.aload_n 0) 6 := ⟨by decide +kernel, rfl⟩
theorem dX8_save_6 : uD 1 cX8_save 6 (.iload_n 1) 7 := ⟨by decide +kernel, rfl⟩
theorem dX8_save_7 : uD 1 cX8_save 7 (.iconst 0) 8 := ⟨by decide +kernel, rfl⟩
theorem dX8_save_8 : uD 1 cX8_save 8 (.iconst 1) 9 := ⟨by decide +kernel, rfl⟩
theorem dX8_save_9 : uD 3 cX8_save 9 (.invokestatic 59) 12 := ⟨by decide +kernel, rfl⟩
theorem dX8_save_12 : uD 1 cX8_save 12 (.iconst 1) 13 := ⟨by decide +kernel, rfl⟩
theorem dX8_save_13 : uD 3 cX8_save 13 (.invokevirtual 55) 16 := ⟨by decide +kernel, rfl⟩
theorem dX8_save_16 : uJ cX8_save 16 (fun o => .ifCond .ne o) 20 19 := ⟨4, by decide +kernel, by decide, rfl⟩
theorem dX8_save_19 : uD 1 cX8_save 19 (.return_) 20 := ⟨by decide +kernel, rfl⟩
theorem dX8_save_20 : uD 1 cX8_save 20 (.aload_n 0) 21 := ⟨by decide +kernel, rfl⟩
theorem dX8_save_21 : uD 3 cX8_save 21 (.getfield 22) 24 := ⟨by decide +kernel, rfl⟩
theorem dX8_save_24 : uD 1 cX8_save 24 (.iload_n 1) 25 := ⟨by decide +kernel, rfl⟩
theorem dX8_save_25 : uD 1 cX8_save 25 (.iconst 1) 26 := ⟨by decide +kernel, rfl⟩
theorem dX8_save_26 : uD 1 cX8_save 26 (.bastore) 27 := ⟨by decide +kernel, rfl⟩
theorem dX8_save_27 : uD 1 cX8_save 27 (.iconst 0) 28 := ⟨by decide +kernel, rfl⟩
theorem dX8_save_28 : uD 1 cX8_save 28 (.istore_n 2) 29 := ⟨by decide +kernel, rfl⟩
theorem dX8_save_29 : uD 1 cX8_save 29 (.iload_n 2) 30 := ⟨by decide +kernel, rfl⟩
theorem dX8_save_30 : uD 2 cX8_save 30 (.bipush 109) 32 := ⟨by decide +kernel, rfl⟩
theorem dX8_save_32 : uJ cX8_save 32 (fun o => .if_icmp .ge o) 58 35 := ⟨26, by decide +kernel, by decide, rfl⟩
theorem dX8_save_35 : uD 1 cX8_save 35 (.aload_n 0) 36 := ⟨by decide +kernel, rfl⟩
theorem dX8_save_36 : uD 3 cX8_save 36 (.getfield 16) 39 := ⟨by decide +kernel, rfl⟩
theorem dX8_save_39 : uD 2 cX8_save 39 (.bipush 109) 41 := ⟨by decide +kernel, rfl⟩
theorem dX8_save_41 : uD 1 cX8_save 41 (.iload_n 1) 42 := ⟨by decide +kernel, rfl⟩
theorem dX8_save_42 : uD 1 cX8_save 42 (.imul) 43 := ⟨by decide +kernel, rfl⟩
theorem dX8_save_43 : uD 1 cX8_save 43 (.iload_n 2) 44 := ⟨by decide +kernel, rfl⟩
theorem dX8_save_44 : uD 1 cX8_save 44 (.iadd) 45 := ⟨by decide +kernel, rfl⟩
theorem dX8_save_45 : uD 1 cX8_save 45 (.aload_n 0) 46 := ⟨by decide +kernel, rfl⟩
theorem dX8_save_46 : uD 3 cX8_save 46 (.getfield 7) 49 := ⟨by decide +kernel, rfl⟩
theorem dX8_save_49 : uD 1 cX8_save 49 (.iload_n 2) 50 := ⟨by decide +kernel, rfl⟩
theorem dX8_save_50 : uD 1 cX8_save 50 (.iaload) 51 := ⟨by decide +kernel, rfl⟩
theorem dX8_save_51 : uD 1 cX8_save 51 (.iastore) 52 := ⟨by decide +kernel, rfl⟩
theorem dX8_save_52 : uD 3 cX8_save 52 (.iinc 2 1) 55 := ⟨by decide +kernel, rfl⟩
theorem dX8_save_55 : uJ cX8_save 55 (fun o => .goto o) 29 58 := ⟨(-26), by decide +kernel, by decide, rfl⟩
theorem dX8_save_58 : uD 1 cX8_save 58 (.return_) 59 := ⟨by decide +kernel, rfl⟩
theorem dX8_restore_0 : uD 1 cX8_restore 0 (.aload_n 0) 1 := ⟨by decide +kernel, rfl⟩
theorem dX8_restore_1 : uD 1 cX8_restore 1 (.iconst 0) 2 := ⟨by decide +kernel, rfl⟩
theorem dX8_restore_2 : uD 3 cX8_restore 2 (.putfield 49) 5 := ⟨by decide +kernel, rfl⟩
theorem dX8_restore_5 : uD 1 cX8_restore 5 (.aload_n 0) 6 := ⟨by decide +kernel, rfl⟩
theorem dX8_restore_6 : uD 1 cX8_restore 6 (.iload_n 1) 7 := ⟨by decide +kernel, rfl⟩
theorem dX8_restore_7 : uD 1 cX8_restore 7 (.iconst 0) 8 := ⟨by decide +kernel, rfl⟩
theorem dX8_restore_8 : uD 1 cX8_restore 8 (.iconst 1) 9 := ⟨by decide +kernel, rfl⟩
theorem dX8_restore_9 : uD 3 cX8_restore 9 (.invokestatic 59) 12 := ⟨by decide +kernel, rfl⟩
theorem dX8_restore_12 : uD 1 cX8_restore 12 (.iconst 1) 13 := ⟨by decide +kernel, rfl⟩
theorem dX8_restore_13 : uD 3 cX8_restore 13 (.invokevirtual 55) 16 := ⟨by decide +kernel, rfl⟩
theorem dX8_restore_16 : uJ cX8_restore 16 (fun o => .ifCond .eq o) 33 19 := ⟨17, by decide +kernel, by decide, rfl⟩
theorem dX8_restore_19 : uD 1 cX8_restore 19 (.aload_n 0) 20 := ⟨by decide +kernel, rfl⟩
theorem dX8_restore_20 : uD 1 cX8_restore 20 (.aload_n 0) 21 := ⟨by decide +kernel, rfl⟩
theorem dX8_restore_21 : uD 3 cX8_restore 21 (.getfield 22) 24 := ⟨by decide +kernel, rfl⟩
theorem dX8_restore_24 : uD 1 cX8_restore 24 (.iload_n 1) 25 := ⟨by decide +kernel, rfl⟩
theorem dX8_restore_25 : uD 1 cX8_restore 25 (.baload) 26 := ⟨by decide +kernel, rfl⟩
theorem dX8_restore_26 : uD 1 cX8_restore 26 (.iconst 2) 27 := ⟨by decide +kernel, rfl⟩
theorem dX8_restore_27 : uD 3 cX8_restore 27 (.invokevirtual 55) 30 := ⟨by decide +kernel, rfl⟩
theorem dX8_restore_30 : uJ cX8_restore 30 (fun o => .ifCond .ne o) 34 33 := ⟨4, by decide +kernel, by decide, rfl⟩
theorem dX8_restore_33 : uD 1 cX8_restore 33 (.return_) 34 := ⟨by decide +kernel, rfl⟩
theorem dX8_restore_34 : uD 1 cX8_restore 34 (.iconst 0) 35 := ⟨by decide +kernel, rfl⟩
theorem dX8_restore_35 : uD 1 cX8_restore 35 (.istore_n 2) 36 := ⟨by decide +kernel, rfl⟩
theorem dX8_restore_36 : uD 1 cX8_restore 36 (.iload_n 2) 37 := ⟨by decide +kernel, rfl⟩
theorem dX8_restore_37 : uD 2 cX8_restore 37 (.bipush 109) 39 := ⟨by decide +kernel, rfl⟩
theorem dX8_restore_39 : uJ cX8_restore 39 (fun o => .if_icmp .ge o) 65 42 := ⟨26, by decide +kernel, by decide, rfl⟩
theorem dX8_restore_42 : uD 1 cX8_restore 42 (.aload_n 0) 43 := ⟨by decide +kernel, rfl⟩
theorem dX8_restore_43 : uD 3 cX8_restore 43 (.getfield 7) 46 := ⟨by decide +kernel, rfl⟩
theorem dX8_restore_46 : uD 1 cX8_restore 46 (.iload_n 2) 47 := ⟨by decide +kernel, rfl⟩
theorem dX8_restore_47 : uD 1 cX8_restore 47 (.aload_n 0) 48 := ⟨by decide +kernel, rfl⟩
theorem dX8_restore_48 : uD 3 cX8_restore 48 (.getfield 16) 51 := ⟨by decide +kernel, rfl⟩
theorem dX8_restore_51 : uD 2 cX8_restore 51 (.bipush 109) 53 := ⟨by decide +kernel, rfl⟩
theorem dX8_restore_53 : uD 1 cX8_restore 53 (.iload_n 1) 54 := ⟨by decide +kernel, rfl⟩
theorem dX8_restore_54 : uD 1 cX8_restore 54 (.imul) 55 := ⟨by decide +kernel, rfl⟩
theorem dX8_restore_55 : uD 1 cX8_restore 55 (.iload_n 2) 56 := ⟨by decide +kernel, rfl⟩
theorem dX8_restore_56 : uD 1 cX8_restore 56 (.iadd) 57 := ⟨by decide +kernel, rfl⟩
theorem dX8_restore_57 : uD 1 cX8_restore 57 (.iaload) 58 := ⟨by decide +kernel, rfl⟩
theorem dX8_restore_58 : uD 1 cX8_restore 58 (.iastore) 59 := ⟨by decide +kernel, rfl⟩
theorem dX8_restore_59 : uD 3 cX8_restore 59 (.iinc 2 1) 62 := ⟨by decide +kernel, rfl⟩
theorem dX8_restore_62 : uJ cX8_restore 62 (fun o => .goto o) 36 65 := ⟨(-26), by decide +kernel, by decide, rfl⟩
theorem dX8_restore_65 : uD 1 cX8_restore 65 (.return_) 66 := ⟨by decide +kernel, rfl⟩
end
section
theorem dL_append_0 : uD 2 cL_append 0 (.aload 6) 2 := ⟨by decide +kernel, rfl⟩
theorem dL_append_2 : uD 1 cL_append 2 (.iconst 0) 3 := ⟨by decide +kernel, rfl⟩
theorem dL_append_3 : uD 1 cL_append 3 (.aload_n 0) 4 := ⟨by decide +kernel, rfl⟩
theorem dL_append_4 : uD 1 cL_append 4 (.iload_n 1) 5 := ⟨by decide +kernel, rfl⟩
theorem dL_append_5 : uD 1 cL_append 5 (.iload_n 2) 6 := ⟨by decide +kernel, rfl⟩
theorem dL_append_6 : uD 1 cL_append 6 (.iload_n 3) 7 := ⟨by decide +kernel, rfl⟩
theorem dL_append_7 : uD 2 cL_append 7 (.iload 4) 9 := ⟨by decide +kernel, rfl⟩
theorem dL_append_9 : uD 2 cL_append 9 (.iload 5) 11 := ⟨by decide +kernel, rfl⟩
theorem dL_append_11 : uD 3 cL_append 11 (.invokevirtual 7) 14 := ⟨by decide +kernel, rfl⟩
theorem dL_append_14 : uD 1 cL_append 14 (.i2l) 15 := ⟨by decide +kernel, rfl⟩
theorem dL_append_15 : uD 1 cL_append 15 (.lastore) 16 := ⟨by decide +kernel, rfl⟩
theorem dL_append_16 : uJ cL_append 16 (fun o => .goto o) 23 19 := ⟨7, by decide +kernel, by decide, rfl⟩
theorem dL_append_19 : uD 2 cL_append 19 (.astore 7) 21 := ⟨by decide +kernel, rfl⟩
theorem dL_append_21 : uD 1 cL_append 21 (.iconst 1) 22 := ⟨by decide +kernel, rfl⟩
theorem dL_append_22 : uD 1 cL_append 22 (.ireturn) 23 := ⟨by decide +kernel, rfl⟩
theorem dL_append_23 : uD 1 cL_append 23 (.iconst 0) 24 := ⟨by decide +kernel, rfl⟩
theorem dL_append_24 : uD 1 cL_append 24 (.ireturn) 25 := ⟨by decide +kernel, rfl⟩
theorem dL_truncate_0 : uD 1 cL_truncate 0 (.aload_n 2) 1 := ⟨by decide +kernel, rfl⟩
theorem dL_truncate_1 : uD 1 cL_truncate 1 (.iconst 0) 2 := ⟨by decide +kernel, rfl⟩
theorem dL_truncate_2 : uD 1 cL_truncate 2 (.aload_n 0) 3 := ⟨by decide +kernel, rfl⟩
theorem dL_truncate_3 : uD 1 cL_truncate 3 (.iload_n 1) 4 := ⟨by decide +kernel, rfl⟩
theorem dL_truncate_4 : uD 3 cL_truncate 4 (.invokevirtual 15) 7 := ⟨by decide +kernel, rfl⟩
theorem dL_truncate_7 : uD 1 cL_truncate 7 (.i2l) 8 := ⟨by decide +kernel, rfl⟩
theorem dL_truncate_8 : uD 1 cL_truncate 8 (.lastore) 9 := ⟨by decide +kernel, rfl⟩
theorem dL_truncate_9 : uJ cL_truncate 9 (fun o => .goto o) 15 12 := ⟨6, by decide +kernel, by decide, rfl⟩
theorem dL_truncate_12 : uD 1 cL_truncate 12 (.astore_n 3) 13 := ⟨by decide +kernel, rfl⟩
theorem dL_truncate_13 : uD 1 cL_truncate 13 (.iconst 1) 14 := ⟨by decide +kernel, rfl⟩
theorem dL_truncate_14 : uD 1 cL_truncate 14 (.ireturn) 15 := ⟨by decide +kernel, rfl⟩
theorem dL_truncate_15 : uD 1 cL_truncate 15 (.iconst 0) 16 := ⟨by decide +kernel, rfl⟩
theorem dL_truncate_16 : uD 1 cL_truncate 16 (.ireturn) 17 := ⟨by decide +kernel, rfl⟩
theorem dL_load_0 : uD 1 cL_load 0 (.aload_n 1) 1 := ⟨by decide +kernel, rfl⟩
theorem dL_load_1 : uD 1 cL_load 1 (.iconst 0) 2 := ⟨by decide +kernel, rfl⟩
theorem dL_load_2 : uD 1 cL_load 2 (.aload_n 0) 3 := ⟨by decide +kernel, rfl⟩
theorem dL_load_3 : uD 3 cL_load 3 (.invokevirtual 21) 6 := ⟨by decide +kernel, rfl⟩
theorem dL_load_6 : uD 1 cL_load 6 (.i2l) 7 := ⟨by decide +kernel, rfl⟩
theorem dL_load_7 : uD 1 cL_load 7 (.lastore) 8 := ⟨by decide +kernel, rfl⟩
theorem dL_load_8 : uJ cL_load 8 (fun o => .goto o) 14 11 := ⟨6, by decide +kernel, by decide, rfl⟩
theorem dL_load_11 : uD 1 cL_load 11 (.astore_n 2) 12 := ⟨by decide +kernel, rfl⟩
theorem dL_load_12 : uD 1 cL_load 12 (.iconst 1) 13 := ⟨by decide +kernel, rfl⟩
theorem dL_load_13 : uD 1 cL_load 13 (.ireturn) 14 := ⟨by decide +kernel, rfl⟩
theorem dL_load_14 : uD 1 cL_load 14 (.iconst 0) 15 := ⟨by decide +kernel, rfl⟩
theorem dL_load_15 : uD 1 cL_load 15 (.ireturn) 16 := ⟨by decide +kernel, rfl⟩
theorem dL_report_0 : uD 1 cL_report 0 (.aload_n 2) 1 := ⟨by decide +kernel, rfl⟩
theorem dL_report_1 : uD 1 cL_report 1 (.iconst 0) 2 := ⟨by decide +kernel, rfl⟩
theorem dL_report_2 : uD 1 cL_report 2 (.aload_n 0) 3 := ⟨by decide +kernel, rfl⟩
theorem dL_report_3 : uD 1 cL_report 3 (.iload_n 1) 4 := ⟨by decide +kernel, rfl⟩
theorem dL_report_4 : uD 3 cL_report 4 (.invokevirtual 27) 7 := ⟨by decide +kernel, rfl⟩
theorem dL_report_7 : uD 1 cL_report 7 (.i2l) 8 := ⟨by decide +kernel, rfl⟩
theorem dL_report_8 : uD 1 cL_report 8 (.lastore) 9 := ⟨by decide +kernel, rfl⟩
theorem dL_report_9 : uJ cL_report 9 (fun o => .goto o) 15 12 := ⟨6, by decide +kernel, by decide, rfl⟩
theorem dL_report_12 : uD 1 cL_report 12 (.astore_n 3) 13 := ⟨by decide +kernel, rfl⟩
theorem dL_report_13 : uD 1 cL_report 13 (.iconst 1) 14 := ⟨by decide +kernel, rfl⟩
theorem dL_report_14 : uD 1 cL_report 14 (.ireturn) 15 := ⟨by decide +kernel, rfl⟩
theorem dL_report_15 : uD 1 cL_report 15 (.iconst 0) 16 := ⟨by decide +kernel, rfl⟩
theorem dL_report_16 : uD 1 cL_report 16 (.ireturn) 17 := ⟨by decide +kernel, rfl⟩
theorem dL_device_0 : uD 1 cL_device 0 (.aload_n 3) 1 := ⟨by decide +kernel, rfl⟩
theorem dL_device_1 : uD 1 cL_device 1 (.iconst 0) 2 := ⟨by decide +kernel, rfl⟩
theorem dL_device_2 : uD 1 cL_device 2 (.aload_n 0) 3 := ⟨by decide +kernel, rfl⟩
theorem dL_device_3 : uD 1 cL_device 3 (.iload_n 1) 4 := ⟨by decide +kernel, rfl⟩
theorem dL_device_4 : uD 1 cL_device 4 (.iload_n 2) 5 := ⟨by decide +kernel, rfl⟩
theorem dL_device_5 : uD 3 cL_device 5 (.invokevirtual 30) 8 := ⟨by decide +kernel, rfl⟩
theorem dL_device_8 : uD 1 cL_device 8 (.i2l) 9 := ⟨by decide +kernel, rfl⟩
theorem dL_device_9 : uD 1 cL_device 9 (.lastore) 10 := ⟨by decide +kernel, rfl⟩
theorem dL_device_10 : uJ cL_device 10 (fun o => .goto o) 21 13 := ⟨11, by decide +kernel, by decide, rfl⟩
theorem dL_device_13 : uD 2 cL_device 13 (.astore 4) 15 := ⟨by decide +kernel, rfl⟩
theorem dL_device_15 : uD 1 cL_device 15 (.iconst 1) 16 := ⟨by decide +kernel, rfl⟩
theorem dL_device_16 : uD 1 cL_device 16 (.ireturn) 17 := ⟨by decide +kernel, rfl⟩
theorem dL_device_17 : uD 2 cL_device 17 (.astore 4) 19 := ⟨by decide +kernel, rfl⟩
theorem dL_device_19 : uD 1 cL_device 19 (.iconst 2) 20 := ⟨by decide +kernel, rfl⟩
theorem dL_device_20 : uD 1 cL_device 20 (.ireturn) 21 := ⟨by decide +kernel, rfl⟩
theorem dL_device_21 : uD 1 cL_device 21 (.iconst 0) 22 := ⟨by decide +kernel, rfl⟩
theorem dL_device_22 : uD 1 cL_device 22 (.ireturn) 23 := ⟨by decide +kernel, rfl⟩
theorem dL_block_0 : uD 1 cL_block 0 (.aload_n 3) 1 := ⟨by decide +kernel, rfl⟩
theorem dL_block_1 : uD 1 cL_block 1 (.iconst 0) 2 := ⟨by decide +kernel, rfl⟩
theorem dL_block_2 : uD 1 cL_block 2 (.aload_n 0) 3 := ⟨by decide +kernel, rfl⟩
theorem dL_block_3 : uD 1 cL_block 3 (.iload_n 1) 4 := ⟨by decide +kernel, rfl⟩
theorem dL_block_4 : uD 1 cL_block 4 (.iload_n 2) 5 := ⟨by decide +kernel, rfl⟩
theorem dL_block_5 : uD 3 cL_block 5 (.invokevirtual 34) 8 := ⟨by decide +kernel, rfl⟩
theorem dL_block_8 : uD 1 cL_block 8 (.i2l) 9 := ⟨by decide +kernel, rfl⟩
theorem dL_block_9 : uD 1 cL_block 9 (.lastore) 10 := ⟨by decide +kernel, rfl⟩
theorem dL_block_10 : uJ cL_block 10 (fun o => .goto o) 21 13 := ⟨11, by decide +kernel, by decide, rfl⟩
theorem dL_block_13 : uD 2 cL_block 13 (.astore 4) 15 := ⟨by decide +kernel, rfl⟩
theorem dL_block_15 : uD 1 cL_block 15 (.iconst 1) 16 := ⟨by decide +kernel, rfl⟩
theorem dL_block_16 : uD 1 cL_block 16 (.ireturn) 17 := ⟨by decide +kernel, rfl⟩
theorem dL_block_17 : uD 2 cL_block 17 (.astore 4) 19 := ⟨by decide +kernel, rfl⟩
theorem dL_block_19 : uD 1 cL_block 19 (.iconst 2) 20 := ⟨by decide +kernel, rfl⟩
theorem dL_block_20 : uD 1 cL_block 20 (.ireturn) 21 := ⟨by decide +kernel, rfl⟩
theorem dL_block_21 : uD 1 cL_block 21 (.iconst 0) 22 := ⟨by decide +kernel, rfl⟩
theorem dL_block_22 : uD 1 cL_block 22 (.ireturn) 23 := ⟨by decide +kernel, rfl⟩
theorem dL_find_0 : uD 1 cL_find 0 (.aload_n 3) 1 := ⟨by decide +kernel, rfl⟩
theorem dL_find_1 : uD 1 cL_find 1 (.iconst 0) 2 := ⟨by decide +kernel, rfl⟩
theorem dL_find_2 : uD 1 cL_find 2 (.aload_n 0) 3 := ⟨by decide +kernel, rfl⟩
theorem dL_find_3 : uD 1 cL_find 3 (.iload_n 1) 4 := ⟨by decide +kernel, rfl⟩
theorem dL_find_4 : uD 1 cL_find 4 (.iload_n 2) 5 := ⟨by decide +kernel, rfl⟩
theorem dL_find_5 : uD 3 cL_find 5 (.invokevirtual 37) 8 := ⟨by decide +kernel, rfl⟩
theorem dL_find_8 : uD 1 cL_find 8 (.i2l) 9 := ⟨by decide +kernel, rfl⟩
theorem dL_find_9 : uD 1 cL_find 9 (.lastore) 10 := ⟨by decide +kernel, rfl⟩
theorem dL_find_10 : uJ cL_find 10 (fun o => .goto o) 21 13 := ⟨11, by decide +kernel, by decide, rfl⟩
theorem dL_find_13 : uD 2 cL_find 13 (.astore 4) 15 := ⟨by decide +kernel, rfl⟩
theorem dL_find_15 : uD 1 cL_find 15 (.iconst 1) 16 := ⟨by decide +kernel, rfl⟩
theorem dL_find_16 : uD 1 cL_find 16 (.ireturn) 17 := ⟨by decide +kernel, rfl⟩
theorem dL_find_17 : uD 2 cL_find 17 (.astore 4) 19 := ⟨by decide +kernel, rfl⟩
theorem dL_find_19 : uD 1 cL_find 19 (.iconst 2) 20 := ⟨by decide +kernel, rfl⟩
theorem dL_find_20 : uD 1 cL_find 20 (.ireturn) 21 := ⟨by decide +kernel, rfl⟩
theorem dL_find_21 : uD 1 cL_find 21 (.iconst 0) 22 := ⟨by decide +kernel, rfl⟩
theorem dL_find_22 : uD 1 cL_find 22 (.ireturn) 23 := ⟨by decide +kernel, rfl⟩
theorem dL_oldest_0 : uD 1 cL_oldest 0 (.aload_n 1) 1 := ⟨by decide +kernel, rfl⟩
theorem dL_oldest_1 : uD 1 cL_oldest 1 (.iconst 0) 2 := ⟨by decide +kernel, rfl⟩
theorem dL_oldest_2 : uD 1 cL_oldest 2 (.aload_n 0) 3 := ⟨by decide +kernel, rfl⟩
theorem dL_oldest_3 : uD 3 cL_oldest 3 (.invokevirtual 42) 6 := ⟨by decide +kernel, rfl⟩
theorem dL_oldest_6 : uD 1 cL_oldest 6 (.i2l) 7 := ⟨by decide +kernel, rfl⟩
theorem dL_oldest_7 : uD 1 cL_oldest 7 (.lastore) 8 := ⟨by decide +kernel, rfl⟩
theorem dL_oldest_8 : uJ cL_oldest 8 (fun o => .goto o) 14 11 := ⟨6, by decide +kernel, by decide, rfl⟩
theorem dL_oldest_11 : uD 1 cL_oldest 11 (.astore_n 2) 12 := ⟨by decide +kernel, rfl⟩
theorem dL_oldest_12 : uD 1 cL_oldest 12 (.iconst 1) 13 := ⟨by decide +kernel, rfl⟩
theorem dL_oldest_13 : uD 1 cL_oldest 13 (.ireturn) 14 := ⟨by decide +kernel, rfl⟩
theorem dL_oldest_14 : uD 1 cL_oldest 14 (.iconst 0) 15 := ⟨by decide +kernel, rfl⟩
theorem dL_oldest_15 : uD 1 cL_oldest 15 (.ireturn) 16 := ⟨by decide +kernel, rfl⟩
theorem dL_total_0 : uD 1 cL_total 0 (.aload_n 2) 1 := ⟨by decide +kernel, rfl⟩
theorem dL_total_1 : uD 1 cL_total 1 (.iconst 0) 2 := ⟨by decide +kernel, rfl⟩
theorem dL_total_2 : uD 1 cL_total 2 (.aload_n 0) 3 := ⟨by decide +kernel, rfl⟩
theorem dL_total_3 : uD 1 cL_total 3 (.iload_n 1) 4 := ⟨by decide +kernel, rfl⟩
theorem dL_total_4 : uD 3 cL_total 4 (.invokevirtual 45) 7 := ⟨by decide +kernel, rfl⟩
theorem dL_total_7 : uD 1 cL_total 7 (.i2l) 8 := ⟨by decide +kernel, rfl⟩
theorem dL_total_8 : uD 1 cL_total 8 (.lastore) 9 := ⟨by decide +kernel, rfl⟩
theorem dL_total_9 : uJ cL_total 9 (fun o => .goto o) 15 12 := ⟨6, by decide +kernel, by decide, rfl⟩
theorem dL_total_12 : uD 1 cL_total 12 (.astore_n 3) 13 := ⟨by decide +kernel, rfl⟩
theorem dL_total_13 : uD 1 cL_total 13 (.iconst 1) 14 := ⟨by decide +kernel, rfl⟩
theorem dL_total_14 : uD 1 cL_total 14 (.ireturn) 15 := ⟨by decide +kernel, rfl⟩
theorem dL_total_15 : uD 1 cL_total 15 (.iconst 0) 16 := ⟨by decide +kernel, rfl⟩
theorem dL_total_16 : uD 1 cL_total 16 (.ireturn) 17 := ⟨by decide +kernel, rfl⟩
theorem dL_write_0 : uD 2 cL_write 0 (.aload 4) 2 := ⟨by decide +kernel, rfl⟩
theorem dL_write_2 : uD 1 cL_write 2 (.iconst 0) 3 := ⟨by decide +kernel, rfl⟩
theorem dL_write_3 : uD 1 cL_write 3 (.aload_n 0) 4 := ⟨by decide +kernel, rfl⟩
theorem dL_write_4 : uD 1 cL_write 4 (.iload_n 1) 5 := ⟨by decide +kernel, rfl⟩
theorem dL_write_5 : uD 1 cL_write 5 (.iload_n 2) 6 := ⟨by decide +kernel, rfl⟩
theorem dL_write_6 : uD 1 cL_write 6 (.iload_n 3) 7 := ⟨by decide +kernel, rfl⟩
theorem dL_write_7 : uD 3 cL_write 7 (.invokevirtual 48) 10 := ⟨by decide +kernel, rfl⟩
theorem dL_write_10 : uJ cL_write 10 (fun o => .ifCond .eq o) 17 13 := ⟨7, by decide +kernel, by decide, rfl⟩
theorem dL_write_13 : uD 1 cL_write 13 (.lconst 1) 14 := ⟨by decide +kernel, rfl⟩
theorem dL_write_14 : uJ cL_write 14 (fun o => .goto o) 18 17 := ⟨4, by decide +kernel, by decide, rfl⟩
theorem dL_write_17 : uD 1 cL_write 17 (.lconst 0) 18 := ⟨by decide +kernel, rfl⟩
theorem dL_write_18 : uD 1 cL_write 18 (.lastore) 19 := ⟨by decide +kernel, rfl⟩
theorem dL_write_19 : uJ cL_write 19 (fun o => .goto o) 34 22 := ⟨15, by decide +kernel, by decide, rfl⟩
theorem dL_write_22 : uD 2 cL_write 22 (.astore 5) 24 := ⟨by decide +kernel, rfl⟩
theorem dL_write_24 : uD 1 cL_write 24 (.iconst 1) 25 := ⟨by decide +kernel, rfl⟩
theorem dL_write_25 : uD 1 cL_write 25 (.ireturn) 26 := ⟨by decide +kernel, rfl⟩
theorem dL_write_26 : uD 2 cL_write 26 (.astore 5) 28 := ⟨by decide +kernel, rfl⟩
theorem dL_write_28 : uD 1 cL_write 28 (.iconst 2) 29 := ⟨by decide +kernel, rfl⟩
theorem dL_write_29 : uD 1 cL_write 29 (.ireturn) 30 := ⟨by decide +kernel, rfl⟩
theorem dL_write_30 : uD 2 cL_write 30 (.astore 5) 32 := ⟨by decide +kernel, rfl⟩
theorem dL_write_32 : uD 1 cL_write 32 (.iconst 3) 33 := ⟨by decide +kernel, rfl⟩
theorem dL_write_33 : uD 1 cL_write 33 (.ireturn) 34 := ⟨by decide +kernel, rfl⟩
theorem dL_write_34 : uD 1 cL_write 34 (.iconst 0) 35 := ⟨by decide +kernel, rfl⟩
theorem dL_write_35 : uD 1 cL_write 35 (.ireturn) 36 := ⟨by decide +kernel, rfl⟩
theorem dL_wouldCache_0 : uD 2 cL_wouldCache 0 (.aload 4) 2 := ⟨by decide +kernel, rfl⟩
theorem dL_wouldCache_2 : uD 1 cL_wouldCache 2 (.iconst 0) 3 := ⟨by decide +kernel, rfl⟩
theorem dL_wouldCache_3 : uD 1 cL_wouldCache 3 (.aload_n 0) 4 := ⟨by decide +kernel, rfl⟩
theorem dL_wouldCache_4 : uD 1 cL_wouldCache 4 (.iload_n 1) 5 := ⟨by decide +kernel, rfl⟩
theorem dL_wouldCache_5 : uD 1 cL_wouldCache 5 (.iload_n 2) 6 := ⟨by decide +kernel, rfl⟩
theorem dL_wouldCache_6 : uD 1 cL_wouldCache 6 (.iload_n 3) 7 := ⟨by decide +kernel, rfl⟩
theorem dL_wouldCache_7 : uD 3 cL_wouldCache 7 (.invokevirtual 52) 10 := ⟨by decide +kernel, rfl⟩
theorem dL_wouldCache_10 : uJ cL_wouldCache 10 (fun o => .ifCond .eq o) 17 13 := ⟨7, by decide +kernel, by decide, rfl⟩
theorem dL_wouldCache_13 : uD 1 cL_wouldCache 13 (.lconst 1) 14 := ⟨by decide +kernel, rfl⟩
theorem dL_wouldCache_14 : uJ cL_wouldCache 14 (fun o => .goto o) 18 17 := ⟨4, by decide +kernel, by decide, rfl⟩
theorem dL_wouldCache_17 : uD 1 cL_wouldCache 17 (.lconst 0) 18 := ⟨by decide +kernel, rfl⟩
theorem dL_wouldCache_18 : uD 1 cL_wouldCache 18 (.lastore) 19 := ⟨by decide +kernel, rfl⟩
theorem dL_wouldCache_19 : uJ cL_wouldCache 19 (fun o => .goto o) 34 22 := ⟨15, by decide +kernel, by decide, rfl⟩
theorem dL_wouldCache_22 : uD 2 cL_wouldCache 22 (.astore 5) 24 := ⟨by decide +kernel, rfl⟩
theorem dL_wouldCache_24 : uD 1 cL_wouldCache 24 (.iconst 1) 25 := ⟨by decide +kernel, rfl⟩
theorem dL_wouldCache_25 : uD 1 cL_wouldCache 25 (.ireturn) 26 := ⟨by decide +kernel, rfl⟩
theorem dL_wouldCache_26 : uD 2 cL_wouldCache 26 (.astore 5) 28 := ⟨by decide +kernel, rfl⟩
theorem dL_wouldCache_28 : uD 1 cL_wouldCache 28 (.iconst 2) 29 := ⟨by decide +kernel, rfl⟩
theorem dL_wouldCache_29 : uD 1 cL_wouldCache 29 (.ireturn) 30 := ⟨by decide +kernel, rfl⟩
theorem dL_wouldCache_30 : uD 2 cL_wouldCache 30 (.astore 5) 32 := ⟨by decide +kernel, rfl⟩
theorem dL_wouldCache_32 : uD 1 cL_wouldCache 32 (.iconst 3) 33 := ⟨by decide +kernel, rfl⟩
theorem dL_wouldCache_33 : uD 1 cL_wouldCache 33 (.ireturn) 34 := ⟨by decide +kernel, rfl⟩
theorem dL_wouldCache_34 : uD 1 cL_wouldCache 34 (.iconst 0) 35 := ⟨by decide +kernel, rfl⟩
theorem dL_wouldCache_35 : uD 1 cL_wouldCache 35 (.ireturn) 36 := ⟨by decide +kernel, rfl⟩
theorem dL_clean_0 : uD 1 cL_clean 0 (.aload_n 2) 1 := ⟨by decide +kernel, rfl⟩
theorem dL_clean_1 : uD 1 cL_clean 1 (.iconst 0) 2 := ⟨by decide +kernel, rfl⟩
theorem dL_clean_2 : uD 1 cL_clean 2 (.aload_n 0) 3 := ⟨by decide +kernel, rfl⟩
theorem dL_clean_3 : uD 1 cL_clean 3 (.iload_n 1) 4 := ⟨by decide +kernel, rfl⟩
theorem dL_clean_4 : uD 3 cL_clean 4 (.invokevirtual 55) 7 := ⟨by decide +kernel, rfl⟩
theorem dL_clean_7 : uD 1 cL_clean 7 (.i2l) 8 := ⟨by decide +kernel, rfl⟩
theorem dL_clean_8 : uD 1 cL_clean 8 (.lastore) 9 := ⟨by decide +kernel, rfl⟩
theorem dL_clean_9 : uJ cL_clean 9 (fun o => .goto o) 18 12 := ⟨9, by decide +kernel, by decide, rfl⟩
theorem dL_clean_12 : uD 1 cL_clean 12 (.astore_n 3) 13 := ⟨by decide +kernel, rfl⟩
theorem dL_clean_13 : uD 1 cL_clean 13 (.iconst 1) 14 := ⟨by decide +kernel, rfl⟩
theorem dL_clean_14 : uD 1 cL_clean 14 (.ireturn) 15 := ⟨by decide +kernel, rfl⟩
theorem dL_clean_15 : uD 1 cL_clean 15 (.astore_n 3) 16 := ⟨by decide +kernel, rfl⟩
theorem dL_clean_16 : uD 1 cL_clean 16 (.iconst 2) 17 := ⟨by decide +kernel, rfl⟩
theorem dL_clean_17 : uD 1 cL_clean 17 (.ireturn) 18 := ⟨by decide +kernel, rfl⟩
theorem dL_clean_18 : uD 1 cL_clean 18 (.iconst 0) 19 := ⟨by decide +kernel, rfl⟩
theorem dL_clean_19 : uD 1 cL_clean 19 (.ireturn) 20 := ⟨by decide +kernel, rfl⟩
theorem dL_setFailed_0 : uD 1 cL_setFailed 0 (.aload_n 3) 1 := ⟨by decide +kernel, rfl⟩
theorem dL_setFailed_1 : uD 1 cL_setFailed 1 (.iconst 0) 2 := ⟨by decide +kernel, rfl⟩
theorem dL_setFailed_2 : uD 1 cL_setFailed 2 (.aload_n 0) 3 := ⟨by decide +kernel, rfl⟩
theorem dL_setFailed_3 : uD 1 cL_setFailed 3 (.iload_n 1) 4 := ⟨by decide +kernel, rfl⟩
theorem dL_setFailed_4 : uD 1 cL_setFailed 4 (.iload_n 2) 5 := ⟨by decide +kernel, rfl⟩
theorem dL_setFailed_5 : uD 3 cL_setFailed 5 (.invokevirtual 58) 8 := ⟨by decide +kernel, rfl⟩
theorem dL_setFailed_8 : uJ cL_setFailed 8 (fun o => .ifCond .eq o) 15 11 := ⟨7, by decide +kernel, by decide, rfl⟩
theorem dL_setFailed_11 : uD 1 cL_setFailed 11 (.lconst 1) 12 := ⟨by decide +kernel, rfl⟩
theorem dL_setFailed_12 : uJ cL_setFailed 12 (fun o => .goto o) 16 15 := ⟨4, by decide +kernel, by decide, rfl⟩
theorem dL_setFailed_15 : uD 1 cL_setFailed 15 (.lconst 0) 16 := ⟨by decide +kernel, rfl⟩
theorem dL_setFailed_16 : uD 1 cL_setFailed 16 (.lastore) 17 := ⟨by decide +kernel, rfl⟩
theorem dL_setFailed_17 : uJ cL_setFailed 17 (fun o => .goto o) 24 20 := ⟨7, by decide +kernel, by decide, rfl⟩
theorem dL_setFailed_20 : uD 2 cL_setFailed 20 (.astore 4) 22 := ⟨by decide +kernel, rfl⟩
theorem dL_setFailed_22 : uD 1 cL_setFailed 22 (.iconst 1) 23 := ⟨by decide +kernel, rfl⟩
theorem dL_setFailed_23 : uD 1 cL_setFailed 23 (.ireturn) 24 := ⟨by decide +kernel, rfl⟩
theorem dL_setFailed_24 : uD 1 cL_setFailed 24 (.iconst 0) 25 := ⟨by decide +kernel, rfl⟩
theorem dL_setFailed_25 : uD 1 cL_setFailed 25 (.ireturn) 26 := ⟨by decide +kernel, rfl⟩
theorem dL_setMode_0 : uD 1 cL_setMode 0 (.aload_n 3) 1 := ⟨by decide +kernel, rfl⟩
theorem dL_setMode_1 : uD 1 cL_setMode 1 (.iconst 0) 2 := ⟨by decide +kernel, rfl⟩
theorem dL_setMode_2 : uD 1 cL_setMode 2 (.aload_n 0) 3 := ⟨by decide +kernel, rfl⟩
theorem dL_setMode_3 : uD 1 cL_setMode 3 (.iload_n 1) 4 := ⟨by decide +kernel, rfl⟩
theorem dL_setMode_4 : uD 1 cL_setMode 4 (.iload_n 2) 5 := ⟨by decide +kernel, rfl⟩
theorem dL_setMode_5 : uD 3 cL_setMode 5 (.invokevirtual 62) 8 := ⟨by decide +kernel, rfl⟩
theorem dL_setMode_8 : uD 1 cL_setMode 8 (.i2l) 9 := ⟨by decide +kernel, rfl⟩
theorem dL_setMode_9 : uD 1 cL_setMode 9 (.lastore) 10 := ⟨by decide +kernel, rfl⟩
theorem dL_setMode_10 : uJ cL_setMode 10 (fun o => .goto o) 17 13 := ⟨7, by decide +kernel, by decide, rfl⟩
theorem dL_setMode_13 : uD 2 cL_setMode 13 (.astore 4) 15 := ⟨by decide +kernel, rfl⟩
theorem dL_setMode_15 : uD 1 cL_setMode 15 (.iconst 1) 16 := ⟨by decide +kernel, rfl⟩
theorem dL_setMode_16 : uD 1 cL_setMode 16 (.ireturn) 17 := ⟨by decide +kernel, rfl⟩
theorem dL_setMode_17 : uD 1 cL_setMode 17 (.iconst 0) 18 := ⟨by decide +kernel, rfl⟩
theorem dL_setMode_18 : uD 1 cL_setMode 18 (.ireturn) 19 := ⟨by decide +kernel, rfl⟩
theorem dL_advance_0 : uD 1 cL_advance 0 (.aload_n 2) 1 := ⟨by decide +kernel, rfl⟩
theorem dL_advance_1 : uD 1 cL_advance 1 (.iconst 0) 2 := ⟨by decide +kernel, rfl⟩
theorem dL_advance_2 : uD 1 cL_advance 2 (.aload_n 0) 3 := ⟨by decide +kernel, rfl⟩
theorem dL_advance_3 : uD 1 cL_advance 3 (.iload_n 1) 4 := ⟨by decide +kernel, rfl⟩
theorem dL_advance_4 : uD 3 cL_advance 4 (.invokevirtual 65) 7 := ⟨by decide +kernel, rfl⟩
theorem dL_advance_7 : uD 1 cL_advance 7 (.i2l) 8 := ⟨by decide +kernel, rfl⟩
theorem dL_advance_8 : uD 1 cL_advance 8 (.lastore) 9 := ⟨by decide +kernel, rfl⟩
theorem dL_advance_9 : uJ cL_advance 9 (fun o => .goto o) 15 12 := ⟨6, by decide +kernel, by decide, rfl⟩
theorem dL_advance_12 : uD 1 cL_advance 12 (.astore_n 3) 13 := ⟨by decide +kernel, rfl⟩
theorem dL_advance_13 : uD 1 cL_advance 13 (.iconst 1) 14 := ⟨by decide +kernel, rfl⟩
theorem dL_advance_14 : uD 1 cL_advance 14 (.ireturn) 15 := ⟨by decide +kernel, rfl⟩
theorem dL_advance_15 : uD 1 cL_advance 15 (.iconst 0) 16 := ⟨by decide +kernel, rfl⟩
theorem dL_advance_16 : uD 1 cL_advance 16 (.ireturn) 17 := ⟨by decide +kernel, rfl⟩
theorem dL_flush_0 : uD 1 cL_flush 0 (.aload_n 1) 1 := ⟨by decide +kernel, rfl⟩
theorem dL_flush_1 : uD 1 cL_flush 1 (.iconst 0) 2 := ⟨by decide +kernel, rfl⟩
theorem dL_flush_2 : uD 1 cL_flush 2 (.aload_n 0) 3 := ⟨by decide +kernel, rfl⟩
theorem dL_flush_3 : uD 3 cL_flush 3 (.invokevirtual 68) 6 := ⟨by decide +kernel, rfl⟩
theorem dL_flush_6 : uD 1 cL_flush 6 (.i2l) 7 := ⟨by decide +kernel, rfl⟩
theorem dL_flush_7 : uD 1 cL_flush 7 (.lastore) 8 := ⟨by decide +kernel, rfl⟩
theorem dL_flush_8 : uJ cL_flush 8 (fun o => .goto o) 14 11 := ⟨6, by decide +kernel, by decide, rfl⟩
theorem dL_flush_11 : uD 1 cL_flush 11 (.astore_n 2) 12 := ⟨by decide +kernel, rfl⟩
theorem dL_flush_12 : uD 1 cL_flush 12 (.iconst 1) 13 := ⟨by decide +kernel, rfl⟩
theorem dL_flush_13 : uD 1 cL_flush 13 (.ireturn) 14 := ⟨by decide +kernel, rfl⟩
theorem dL_flush_14 : uD 1 cL_flush 14 (.iconst 0) 15 := ⟨by decide +kernel, rfl⟩
theorem dL_flush_15 : uD 1 cL_flush 15 (.ireturn) 16 := ⟨by decide +kernel, rfl⟩
theorem dL_flushDevice_0 : uD 1 cL_flushDevice 0 (.aload_n 2) 1 := ⟨by decide +kernel, rfl⟩
theorem dL_flushDevice_1 : uD 1 cL_flushDevice 1 (.iconst 0) 2 := ⟨by decide +kernel, rfl⟩
theorem dL_flushDevice_2 : uD 1 cL_flushDevice 2 (.aload_n 0) 3 := ⟨by decide +kernel, rfl⟩
theorem dL_flushDevice_3 : uD 1 cL_flushDevice 3 (.iload_n 1) 4 := ⟨by decide +kernel, rfl⟩
theorem dL_flushDevice_4 : uD 3 cL_flushDevice 4 (.invokevirtual 71) 7 := ⟨by decide +kernel, rfl⟩
theorem dL_flushDevice_7 : uD 1 cL_flushDevice 7 (.i2l) 8 := ⟨by decide +kernel, rfl⟩
theorem dL_flushDevice_8 : uD 1 cL_flushDevice 8 (.lastore) 9 := ⟨by decide +kernel, rfl⟩
theorem dL_flushDevice_9 : uJ cL_flushDevice 9 (fun o => .goto o) 18 12 := ⟨9, by decide +kernel, by decide, rfl⟩
theorem dL_flushDevice_12 : uD 1 cL_flushDevice 12 (.astore_n 3) 13 := ⟨by decide +kernel, rfl⟩
theorem dL_flushDevice_13 : uD 1 cL_flushDevice 13 (.iconst 1) 14 := ⟨by decide +kernel, rfl⟩
theorem dL_flushDevice_14 : uD 1 cL_flushDevice 14 (.ireturn) 15 := ⟨by decide +kernel, rfl⟩
theorem dL_flushDevice_15 : uD 1 cL_flushDevice 15 (.astore_n 3) 16 := ⟨by decide +kernel, rfl⟩
theorem dL_flushDevice_16 : uD 1 cL_flushDevice 16 (.iconst 2) 17 := ⟨by decide +kernel, rfl⟩
theorem dL_flushDevice_17 : uD 1 cL_flushDevice 17 (.ireturn) 18 := ⟨by decide +kernel, rfl⟩
theorem dL_flushDevice_18 : uD 1 cL_flushDevice 18 (.iconst 0) 19 := ⟨by decide +kernel, rfl⟩
theorem dL_flushDevice_19 : uD 1 cL_flushDevice 19 (.ireturn) 20 := ⟨by decide +kernel, rfl⟩
theorem dL_energyOf_0 : uD 1 cL_energyOf 0 (.aload_n 2) 1 := ⟨by decide +kernel, rfl⟩
theorem dL_energyOf_1 : uD 1 cL_energyOf 1 (.iconst 0) 2 := ⟨by decide +kernel, rfl⟩
theorem dL_energyOf_2 : uD 1 cL_energyOf 2 (.aload_n 0) 3 := ⟨by decide +kernel, rfl⟩
theorem dL_energyOf_3 : uD 1 cL_energyOf 3 (.iload_n 1) 4 := ⟨by decide +kernel, rfl⟩
theorem dL_energyOf_4 : uD 3 cL_energyOf 4 (.invokevirtual 74) 7 := ⟨by decide +kernel, rfl⟩
theorem dL_energyOf_7 : uD 1 cL_energyOf 7 (.i2l) 8 := ⟨by decide +kernel, rfl⟩
theorem dL_energyOf_8 : uD 1 cL_energyOf 8 (.lastore) 9 := ⟨by decide +kernel, rfl⟩
theorem dL_energyOf_9 : uJ cL_energyOf 9 (fun o => .goto o) 15 12 := ⟨6, by decide +kernel, by decide, rfl⟩
theorem dL_energyOf_12 : uD 1 cL_energyOf 12 (.astore_n 3) 13 := ⟨by decide +kernel, rfl⟩
theorem dL_energyOf_13 : uD 1 cL_energyOf 13 (.iconst 1) 14 := ⟨by decide +kernel, rfl⟩
theorem dL_energyOf_14 : uD 1 cL_energyOf 14 (.ireturn) 15 := ⟨by decide +kernel, rfl⟩
theorem dL_energyOf_15 : uD 1 cL_energyOf 15 (.iconst 0) 16 := ⟨by decide +kernel, rfl⟩
theorem dL_energyOf_16 : uD 1 cL_energyOf 16 (.ireturn) 17 := ⟨by decide +kernel, rfl⟩
theorem dL_valueOf_0 : uD 1 cL_valueOf 0 (.aload_n 2) 1 := ⟨by decide +kernel, rfl⟩
theorem dL_valueOf_1 : uD 1 cL_valueOf 1 (.iconst 0) 2 := ⟨by decide +kernel, rfl⟩
theorem dL_valueOf_2 : uD 1 cL_valueOf 2 (.aload_n 0) 3 := ⟨by decide +kernel, rfl⟩
theorem dL_valueOf_3 : uD 1 cL_valueOf 3 (.iload_n 1) 4 := ⟨by decide +kernel, rfl⟩
theorem dL_valueOf_4 : uD 3 cL_valueOf 4 (.invokevirtual 77) 7 := ⟨by decide +kernel, rfl⟩
theorem dL_valueOf_7 : uD 1 cL_valueOf 7 (.i2l) 8 := ⟨by decide +kernel, rfl⟩
theorem dL_valueOf_8 : uD 1 cL_valueOf 8 (.lastore) 9 := ⟨by decide +kernel, rfl⟩
theorem dL_valueOf_9 : uJ cL_valueOf 9 (fun o => .goto o) 15 12 := ⟨6, by decide +kernel, by decide, rfl⟩
theorem dL_valueOf_12 : uD 1 cL_valueOf 12 (.astore_n 3) 13 := ⟨by decide +kernel, rfl⟩
theorem dL_valueOf_13 : uD 1 cL_valueOf 13 (.iconst 1) 14 := ⟨by decide +kernel, rfl⟩
theorem dL_valueOf_14 : uD 1 cL_valueOf 14 (.ireturn) 15 := ⟨by decide +kernel, rfl⟩
theorem dL_valueOf_15 : uD 1 cL_valueOf 15 (.iconst 0) 16 := ⟨by decide +kernel, rfl⟩
theorem dL_valueOf_16 : uD 1 cL_valueOf 16 (.ireturn) 17 := ⟨by decide +kernel, rfl⟩
theorem dL_bestSet_0 : uD 1 cL_bestSet 0 (.aload_n 2) 1 := ⟨by decide +kernel, rfl⟩
theorem dL_bestSet_1 : uD 1 cL_bestSet 1 (.iconst 0) 2 := ⟨by decide +kernel, rfl⟩
theorem dL_bestSet_2 : uD 1 cL_bestSet 2 (.aload_n 0) 3 := ⟨by decide +kernel, rfl⟩
theorem dL_bestSet_3 : uD 1 cL_bestSet 3 (.iload_n 1) 4 := ⟨by decide +kernel, rfl⟩
theorem dL_bestSet_4 : uD 3 cL_bestSet 4 (.invokevirtual 80) 7 := ⟨by decide +kernel, rfl⟩
theorem dL_bestSet_7 : uD 1 cL_bestSet 7 (.i2l) 8 := ⟨by decide +kernel, rfl⟩
theorem dL_bestSet_8 : uD 1 cL_bestSet 8 (.lastore) 9 := ⟨by decide +kernel, rfl⟩
theorem dL_bestSet_9 : uJ cL_bestSet 9 (fun o => .goto o) 15 12 := ⟨6, by decide +kernel, by decide, rfl⟩
theorem dL_bestSet_12 : uD 1 cL_bestSet 12 (.astore_n 3) 13 := ⟨by decide +kernel, rfl⟩
theorem dL_bestSet_13 : uD 1 cL_bestSet 13 (.iconst 1) 14 := ⟨by decide +kernel, rfl⟩
theorem dL_bestSet_14 : uD 1 cL_bestSet 14 (.ireturn) 15 := ⟨by decide +kernel, rfl⟩
theorem dL_bestSet_15 : uD 1 cL_bestSet 15 (.iconst 0) 16 := ⟨by decide +kernel, rfl⟩
theorem dL_bestSet_16 : uD 1 cL_bestSet 16 (.ireturn) 17 := ⟨by decide +kernel, rfl⟩
theorem dL_bestValue_0 : uD 1 cL_bestValue 0 (.aload_n 2) 1 := ⟨by decide +kernel, rfl⟩
theorem dL_bestValue_1 : uD 1 cL_bestValue 1 (.iconst 0) 2 := ⟨by decide +kernel, rfl⟩
theorem dL_bestValue_2 : uD 1 cL_bestValue 2 (.aload_n 0) 3 := ⟨by decide +kernel, rfl⟩
theorem dL_bestValue_3 : uD 1 cL_bestValue 3 (.iload_n 1) 4 := ⟨by decide +kernel, rfl⟩
theorem dL_bestValue_4 : uD 3 cL_bestValue 4 (.invokevirtual 83) 7 := ⟨by decide +kernel, rfl⟩
theorem dL_bestValue_7 : uD 1 cL_bestValue 7 (.i2l) 8 := ⟨by decide +kernel, rfl⟩
theorem dL_bestValue_8 : uD 1 cL_bestValue 8 (.lastore) 9 := ⟨by decide +kernel, rfl⟩
theorem dL_bestValue_9 : uJ cL_bestValue 9 (fun o => .goto o) 15 12 := ⟨6, by decide +kernel, by decide, rfl⟩
theorem dL_bestValue_12 : uD 1 cL_bestValue 12 (.astore_n 3) 13 := ⟨by decide +kernel, rfl⟩
theorem dL_bestValue_13 : uD 1 cL_bestValue 13 (.iconst 1) 14 := ⟨by decide +kernel, rfl⟩
theorem dL_bestValue_14 : uD 1 cL_bestValue 14 (.ireturn) 15 := ⟨by decide +kernel, rfl⟩
theorem dL_bestValue_15 : uD 1 cL_bestValue 15 (.iconst 0) 16 := ⟨by decide +kernel, rfl⟩
theorem dL_bestValue_16 : uD 1 cL_bestValue 16 (.ireturn) 17 := ⟨by decide +kernel, rfl⟩
theorem dL_greedySet_0 : uD 1 cL_greedySet 0 (.aload_n 2) 1 := ⟨by decide +kernel, rfl⟩
theorem dL_greedySet_1 : uD 1 cL_greedySet 1 (.iconst 0) 2 := ⟨by decide +kernel, rfl⟩
theorem dL_greedySet_2 : uD 1 cL_greedySet 2 (.aload_n 0) 3 := ⟨by decide +kernel, rfl⟩
theorem dL_greedySet_3 : uD 1 cL_greedySet 3 (.iload_n 1) 4 := ⟨by decide +kernel, rfl⟩
theorem dL_greedySet_4 : uD 3 cL_greedySet 4 (.invokevirtual 86) 7 := ⟨by decide +kernel, rfl⟩
theorem dL_greedySet_7 : uD 1 cL_greedySet 7 (.i2l) 8 := ⟨by decide +kernel, rfl⟩
theorem dL_greedySet_8 : uD 1 cL_greedySet 8 (.lastore) 9 := ⟨by decide +kernel, rfl⟩
theorem dL_greedySet_9 : uJ cL_greedySet 9 (fun o => .goto o) 15 12 := ⟨6, by decide +kernel, by decide, rfl⟩
theorem dL_greedySet_12 : uD 1 cL_greedySet 12 (.astore_n 3) 13 := ⟨by decide +kernel, rfl⟩
theorem dL_greedySet_13 : uD 1 cL_greedySet 13 (.iconst 1) 14 := ⟨by decide +kernel, rfl⟩
theorem dL_greedySet_14 : uD 1 cL_greedySet 14 (.ireturn) 15 := ⟨by decide +kernel, rfl⟩
theorem dL_greedySet_15 : uD 1 cL_greedySet 15 (.iconst 0) 16 := ⟨by decide +kernel, rfl⟩
theorem dL_greedySet_16 : uD 1 cL_greedySet 16 (.ireturn) 17 := ⟨by decide +kernel, rfl⟩
theorem dL_quality_0 : uD 1 cL_quality 0 (.aload_n 2) 1 := ⟨by decide +kernel, rfl⟩
theorem dL_quality_1 : uD 1 cL_quality 1 (.iconst 0) 2 := ⟨by decide +kernel, rfl⟩
theorem dL_quality_2 : uD 1 cL_quality 2 (.aload_n 0) 3 := ⟨by decide +kernel, rfl⟩
theorem dL_quality_3 : uD 1 cL_quality 3 (.iload_n 1) 4 := ⟨by decide +kernel, rfl⟩
theorem dL_quality_4 : uD 3 cL_quality 4 (.invokevirtual 89) 7 := ⟨by decide +kernel, rfl⟩
theorem dL_quality_7 : uD 1 cL_quality 7 (.dastore) 8 := ⟨by decide +kernel, rfl⟩
theorem dL_quality_8 : uJ cL_quality 8 (fun o => .goto o) 17 11 := ⟨9, by decide +kernel, by decide, rfl⟩
theorem dL_quality_11 : uD 1 cL_quality 11 (.astore_n 3) 12 := ⟨by decide +kernel, rfl⟩
theorem dL_quality_12 : uD 1 cL_quality 12 (.iconst 1) 13 := ⟨by decide +kernel, rfl⟩
theorem dL_quality_13 : uD 1 cL_quality 13 (.ireturn) 14 := ⟨by decide +kernel, rfl⟩
theorem dL_quality_14 : uD 1 cL_quality 14 (.astore_n 3) 15 := ⟨by decide +kernel, rfl⟩
theorem dL_quality_15 : uD 1 cL_quality 15 (.iconst 2) 16 := ⟨by decide +kernel, rfl⟩
theorem dL_quality_16 : uD 1 cL_quality 16 (.ireturn) 17 := ⟨by decide +kernel, rfl⟩
theorem dL_quality_17 : uD 1 cL_quality 17 (.iconst 0) 18 := ⟨by decide +kernel, rfl⟩
theorem dL_quality_18 : uD 1 cL_quality 18 (.ireturn) 19 := ⟨by decide +kernel, rfl⟩
theorem dL_energyFor_0 : uD 1 cL_energyFor 0 (.aload_n 2) 1 := ⟨by decide +kernel, rfl⟩
theorem dL_energyFor_1 : uD 1 cL_energyFor 1 (.iconst 0) 2 := ⟨by decide +kernel, rfl⟩
theorem dL_energyFor_2 : uD 1 cL_energyFor 2 (.aload_n 0) 3 := ⟨by decide +kernel, rfl⟩
theorem dL_energyFor_3 : uD 1 cL_energyFor 3 (.iload_n 1) 4 := ⟨by decide +kernel, rfl⟩
theorem dL_energyFor_4 : uD 3 cL_energyFor 4 (.invokevirtual 93) 7 := ⟨by decide +kernel, rfl⟩
theorem dL_energyFor_7 : uD 1 cL_energyFor 7 (.i2l) 8 := ⟨by decide +kernel, rfl⟩
theorem dL_energyFor_8 : uD 1 cL_energyFor 8 (.lastore) 9 := ⟨by decide +kernel, rfl⟩
theorem dL_energyFor_9 : uJ cL_energyFor 9 (fun o => .goto o) 18 12 := ⟨9, by decide +kernel, by decide, rfl⟩
theorem dL_energyFor_12 : uD 1 cL_energyFor 12 (.astore_n 3) 13 := ⟨by decide +kernel, rfl⟩
theorem dL_energyFor_13 : uD 1 cL_energyFor 13 (.iconst 1) 14 := ⟨by decide +kernel, rfl⟩
theorem dL_energyFor_14 : uD 1 cL_energyFor 14 (.ireturn) 15 := ⟨by decide +kernel, rfl⟩
theorem dL_energyFor_15 : uD 1 cL_energyFor 15 (.astore_n 3) 16 := ⟨by decide +kernel, rfl⟩
theorem dL_energyFor_16 : uD 1 cL_energyFor 16 (.iconst 2) 17 := ⟨by decide +kernel, rfl⟩
theorem dL_energyFor_17 : uD 1 cL_energyFor 17 (.ireturn) 18 := ⟨by decide +kernel, rfl⟩
theorem dL_energyFor_18 : uD 1 cL_energyFor 18 (.iconst 0) 19 := ⟨by decide +kernel, rfl⟩
theorem dL_energyFor_19 : uD 1 cL_energyFor 19 (.ireturn) 20 := ⟨by decide +kernel, rfl⟩
theorem dL_extra_0 : uD 1 cL_extra 0 (.aload_n 2) 1 := ⟨by decide +kernel, rfl⟩
theorem dL_extra_1 : uD 1 cL_extra 1 (.iconst 0) 2 := ⟨by decide +kernel, rfl⟩
theorem dL_extra_2 : uD 1 cL_extra 2 (.aload_n 0) 3 := ⟨by decide +kernel, rfl⟩
theorem dL_extra_3 : uD 1 cL_extra 3 (.iload_n 1) 4 := ⟨by decide +kernel, rfl⟩
theorem dL_extra_4 : uD 3 cL_extra 4 (.invokevirtual 96) 7 := ⟨by decide +kernel, rfl⟩
theorem dL_extra_7 : uD 1 cL_extra 7 (.i2l) 8 := ⟨by decide +kernel, rfl⟩
theorem dL_extra_8 : uD 1 cL_extra 8 (.lastore) 9 := ⟨by decide +kernel, rfl⟩
theorem dL_extra_9 : uJ cL_extra 9 (fun o => .goto o) 18 12 := ⟨9, by decide +kernel, by decide, rfl⟩
theorem dL_extra_12 : uD 1 cL_extra 12 (.astore_n 3) 13 := ⟨by decide +kernel, rfl⟩
theorem dL_extra_13 : uD 1 cL_extra 13 (.iconst 1) 14 := ⟨by decide +kernel, rfl⟩
theorem dL_extra_14 : uD 1 cL_extra 14 (.ireturn) 15 := ⟨by decide +kernel, rfl⟩
theorem dL_extra_15 : uD 1 cL_extra 15 (.astore_n 3) 16 := ⟨by decide +kernel, rfl⟩
theorem dL_extra_16 : uD 1 cL_extra 16 (.iconst 2) 17 := ⟨by decide +kernel, rfl⟩
theorem dL_extra_17 : uD 1 cL_extra 17 (.ireturn) 18 := ⟨by decide +kernel, rfl⟩
theorem dL_extra_18 : uD 1 cL_extra 18 (.iconst 0) 19 := ⟨by decide +kernel, rfl⟩
theorem dL_extra_19 : uD 1 cL_extra 19 (.ireturn) 20 := ⟨by decide +kernel, rfl⟩
theorem dL_valueAfter_0 : uD 1 cL_valueAfter 0 (.aload_n 2) 1 := ⟨by decide +kernel, rfl⟩
theorem dL_valueAfter_1 : uD 1 cL_valueAfter 1 (.iconst 0) 2 := ⟨by decide +kernel, rfl⟩
theorem dL_valueAfter_2 : uD 1 cL_valueAfter 2 (.aload_n 0) 3 := ⟨by decide +kernel, rfl⟩
theorem dL_valueAfter_3 : uD 1 cL_valueAfter 3 (.iload_n 1) 4 := ⟨by decide +kernel, rfl⟩
theorem dL_valueAfter_4 : uD 3 cL_valueAfter 4 (.invokevirtual 99) 7 := ⟨by decide +kernel, rfl⟩
theorem dL_valueAfter_7 : uD 1 cL_valueAfter 7 (.i2l) 8 := ⟨by decide +kernel, rfl⟩
theorem dL_valueAfter_8 : uD 1 cL_valueAfter 8 (.lastore) 9 := ⟨by decide +kernel, rfl⟩
theorem dL_valueAfter_9 : uJ cL_valueAfter 9 (fun o => .goto o) 15 12 := ⟨6, by decide +kernel, by decide, rfl⟩
theorem dL_valueAfter_12 : uD 1 cL_valueAfter 12 (.astore_n 3) 13 := ⟨by decide +kernel, rfl⟩
theorem dL_valueAfter_13 : uD 1 cL_valueAfter 13 (.iconst 1) 14 := ⟨by decide +kernel, rfl⟩
theorem dL_valueAfter_14 : uD 1 cL_valueAfter 14 (.ireturn) 15 := ⟨by decide +kernel, rfl⟩
theorem dL_valueAfter_15 : uD 1 cL_valueAfter 15 (.iconst 0) 16 := ⟨by decide +kernel, rfl⟩
theorem dL_valueAfter_16 : uD 1 cL_valueAfter 16 (.ireturn) 17 := ⟨by decide +kernel, rfl⟩
theorem dL_gainOfRepair_0 : uD 1 cL_gainOfRepair 0 (.aload_n 2) 1 := ⟨by decide +kernel, rfl⟩
theorem dL_gainOfRepair_1 : uD 1 cL_gainOfRepair 1 (.iconst 0) 2 := ⟨by decide +kernel, rfl⟩
theorem dL_gainOfRepair_2 : uD 1 cL_gainOfRepair 2 (.aload_n 0) 3 := ⟨by decide +kernel, rfl⟩
theorem dL_gainOfRepair_3 : uD 1 cL_gainOfRepair 3 (.iload_n 1) 4 := ⟨by decide +kernel, rfl⟩
theorem dL_gainOfRepair_4 : uD 3 cL_gainOfRepair 4 (.invokevirtual 102) 7 := ⟨by decide +kernel, rfl⟩
theorem dL_gainOfRepair_7 : uD 1 cL_gainOfRepair 7 (.i2l) 8 := ⟨by decide +kernel, rfl⟩
theorem dL_gainOfRepair_8 : uD 1 cL_gainOfRepair 8 (.lastore) 9 := ⟨by decide +kernel, rfl⟩
theorem dL_gainOfRepair_9 : uJ cL_gainOfRepair 9 (fun o => .goto o) 15 12 := ⟨6, by decide +kernel, by decide, rfl⟩
theorem dL_gainOfRepair_12 : uD 1 cL_gainOfRepair 12 (.astore_n 3) 13 := ⟨by decide +kernel, rfl⟩
theorem dL_gainOfRepair_13 : uD 1 cL_gainOfRepair 13 (.iconst 1) 14 := ⟨by decide +kernel, rfl⟩
theorem dL_gainOfRepair_14 : uD 1 cL_gainOfRepair 14 (.ireturn) 15 := ⟨by decide +kernel, rfl⟩
theorem dL_gainOfRepair_15 : uD 1 cL_gainOfRepair 15 (.iconst 0) 16 := ⟨by decide +kernel, rfl⟩
theorem dL_gainOfRepair_16 : uD 1 cL_gainOfRepair 16 (.ireturn) 17 := ⟨by decide +kernel, rfl⟩
theorem dL_costliest_0 : uD 1 cL_costliest 0 (.aload_n 1) 1 := ⟨by decide +kernel, rfl⟩
theorem dL_costliest_1 : uD 1 cL_costliest 1 (.iconst 0) 2 := ⟨by decide +kernel, rfl⟩
theorem dL_costliest_2 : uD 1 cL_costliest 2 (.aload_n 0) 3 := ⟨by decide +kernel, rfl⟩
theorem dL_costliest_3 : uD 3 cL_costliest 3 (.invokevirtual 105) 6 := ⟨by decide +kernel, rfl⟩
theorem dL_costliest_6 : uD 1 cL_costliest 6 (.i2l) 7 := ⟨by decide +kernel, rfl⟩
theorem dL_costliest_7 : uD 1 cL_costliest 7 (.lastore) 8 := ⟨by decide +kernel, rfl⟩
theorem dL_costliest_8 : uJ cL_costliest 8 (fun o => .goto o) 14 11 := ⟨6, by decide +kernel, by decide, rfl⟩
theorem dL_costliest_11 : uD 1 cL_costliest 11 (.astore_n 2) 12 := ⟨by decide +kernel, rfl⟩
theorem dL_costliest_12 : uD 1 cL_costliest 12 (.iconst 1) 13 := ⟨by decide +kernel, rfl⟩
theorem dL_costliest_13 : uD 1 cL_costliest 13 (.ireturn) 14 := ⟨by decide +kernel, rfl⟩
theorem dL_costliest_14 : uD 1 cL_costliest 14 (.iconst 0) 15 := ⟨by decide +kernel, rfl⟩
theorem dL_costliest_15 : uD 1 cL_costliest 15 (.ireturn) 16 := ⟨by decide +kernel, rfl⟩
theorem dL_save_0 : uD 1 cL_save 0 (.aload_n 0) 1 := ⟨by decide +kernel, rfl⟩
theorem dL_save_1 : uD 1 cL_save 1 (.iload_n 1) 2 := ⟨by decide +kernel, rfl⟩
theorem dL_save_2 : uD 3 cL_save 2 (.invokevirtual 108) 5 := ⟨by decide +kernel, rfl⟩
theorem dL_save_5 : uJ cL_save 5 (fun o => .goto o) 11 8 := ⟨6, by decide +kernel, by decide, rfl⟩
theorem dL_save_8 : uD 1 cL_save 8 (.astore_n 2) 9 := ⟨by decide +kernel, rfl⟩
theorem dL_save_9 : uD 1 cL_save 9 (.iconst 1) 10 := ⟨by decide +kernel, rfl⟩
theorem dL_save_10 : uD 1 cL_save 10 (.ireturn) 11 := ⟨by decide +kernel, rfl⟩
theorem dL_save_11 : uD 1 cL_save 11 (.iconst 0) 12 := ⟨by decide +kernel, rfl⟩
theorem dL_save_12 : uD 1 cL_save 12 (.ireturn) 13 := ⟨by decide +kernel, rfl⟩
theorem dL_restore_0 : uD 1 cL_restore 0 (.aload_n 0) 1 := ⟨by decide +kernel, rfl⟩
theorem dL_restore_1 : uD 1 cL_restore 1 (.iload_n 1) 2 := ⟨by decide +kernel, rfl⟩
theorem dL_restore_2 : uD 3 cL_restore 2 (.invokevirtual 112) 5 := ⟨by decide +kernel, rfl⟩
theorem dL_restore_5 : uJ cL_restore 5 (fun o => .goto o) 14 8 := ⟨9, by decide +kernel, by decide, rfl⟩
theorem dL_restore_8 : uD 1 cL_restore 8 (.astore_n 2) 9 := ⟨by decide +kernel, rfl⟩
theorem dL_restore_9 : uD 1 cL_restore 9 (.iconst 1) 10 := ⟨by decide +kernel, rfl⟩
theorem dL_restore_10 : uD 1 cL_restore 10 (.ireturn) 11 := ⟨by decide +kernel, rfl⟩
theorem dL_restore_11 : uD 1 cL_restore 11 (.astore_n 2) 12 := ⟨by decide +kernel, rfl⟩
theorem dL_restore_12 : uD 1 cL_restore 12 (.iconst 2) 13 := ⟨by decide +kernel, rfl⟩
theorem dL_restore_13 : uD 1 cL_restore 13 (.ireturn) 14 := ⟨by decide +kernel, rfl⟩
theorem dL_restore_14 : uD 1 cL_restore 14 (.iconst 0) 15 := ⟨by decide +kernel, rfl⟩
theorem dL_restore_15 : uD 1 cL_restore 15 (.ireturn) 16 := ⟨by decide +kernel, rfl⟩
theorem dL_law_0 : uD 3 cL_law 0 (.new 8) 3 := ⟨by decide +kernel, rfl⟩
theorem dL_law_3 : uD 1 cL_law 3 (.dup) 4 := ⟨by decide +kernel, rfl⟩
theorem dL_law_4 : uD 3 cL_law 4 (.invokespecial 115) 7 := ⟨by decide +kernel, rfl⟩
theorem dL_law_7 : uD 1 cL_law 7 (.astore_n 1) 8 := ⟨by decide +kernel, rfl⟩
theorem dL_law_8 : uD 3 cL_law 8 (.new 116) 11 := ⟨by decide +kernel, rfl⟩
theorem dL_law_11 : uD 1 cL_law 11 (.dup) 12 := ⟨by decide +kernel, rfl⟩
theorem dL_law_12 : uD 3 cL_law 12 (.invokespecial 118) 15 := ⟨by decide +kernel, rfl⟩
theorem dL_law_15 : uD 1 cL_law 15 (.astore_n 2) 16 := ⟨by decide +kernel, rfl⟩
theorem dL_law_16 : uD 1 cL_law 16 (.iconst 1) 17 := ⟨by decide +kernel, rfl⟩
theorem dL_law_17 : uD 2 cL_law 17 (.newarray .long) 19 := ⟨by decide +kernel, rfl⟩
theorem dL_law_19 : uD 1 cL_law 19 (.astore_n 3) 20 := ⟨by decide +kernel, rfl⟩
theorem dL_law_20 : uD 1 cL_law 20 (.iconst 1) 21 := ⟨by decide +kernel, rfl⟩
theorem dL_law_21 : uD 2 cL_law 21 (.newarray .double) 23 := ⟨by decide +kernel, rfl⟩
theorem dL_law_23 : uD 2 cL_law 23 (.astore 4) 25 := ⟨by decide +kernel, rfl⟩
theorem dL_law_25 : uD 1 cL_law 25 (.iconst 0) 26 := ⟨by decide +kernel, rfl⟩
theorem dL_law_26 : uD 2 cL_law 26 (.istore 5) 28 := ⟨by decide +kernel, rfl⟩
theorem dL_law_28 : uD 2 cL_law 28 (.iload 5) 30 := ⟨by decide +kernel, rfl⟩
theorem dL_law_30 : uD 1 cL_law 30 (.aload_n 0) 31 := ⟨by decide +kernel, rfl⟩
theorem dL_law_31 : uD 1 cL_law 31 (.arraylength) 32 := ⟨by decide +kernel, rfl⟩
theorem dL_law_32 : uD 2 cL_law 32 (.bipush 6) 34 := ⟨by decide +kernel, rfl⟩
theorem dL_law_34 : uD 1 cL_law 34 (.isub) 35 := ⟨by decide +kernel, rfl⟩
theorem dL_law_35 : uJ cL_law 35 (fun o => .if_icmp .gt o) 2122 38 := ⟨2087, by decide +kernel, by decide, rfl⟩
theorem dL_law_38 : uD 1 cL_law 38 (.aload_n 0) 39 := ⟨by decide +kernel, rfl⟩
theorem dL_law_39 : uD 2 cL_law 39 (.iload 5) 41 := ⟨by decide +kernel, rfl⟩
theorem dL_law_41 : uD 1 cL_law 41 (.iaload) 42 := ⟨by decide +kernel, rfl⟩
theorem dL_law_42 : uD 2 cL_law 42 (.bipush 63) 44 := ⟨by decide +kernel, rfl⟩
theorem dL_law_44 : uD 1 cL_law 44 (.iand) 45 := ⟨by decide +kernel, rfl⟩
theorem dL_law_45 : uD 159 cL_law 45 (.tableswitch 2071 0 35 #[159, 263, 319, 363, 376, 389, 445, 513, 581, 649, 693, 749, 836, 923, 979, 1070, 1138, 1179, 1235, 1279, 1335, 1348, 1404, 1460, 1516, 1572, 1628, 1705, 1761, 1817, 1830, 1886, 1899, 1955, 1999, 2035]) 204 := ⟨by decide +kernel, rfl⟩
theorem dL_law_204 : uD 1 cL_law 204 (.aload_n 1) 205 := ⟨by decide +kernel, rfl⟩
theorem dL_law_205 : uD 1 cL_law 205 (.aload_n 0) 206 := ⟨by decide +kernel, rfl⟩
theorem dL_law_206 : uD 2 cL_law 206 (.iload 5) 208 := ⟨by decide +kernel, rfl⟩
theorem dL_law_208 : uD 1 cL_law 208 (.iconst 1) 209 := ⟨by decide +kernel, rfl⟩
theorem dL_law_209 : uD 1 cL_law 209 (.iadd) 210 := ⟨by decide +kernel, rfl⟩
theorem dL_law_210 : uD 1 cL_law 210 (.iaload) 211 := ⟨by decide +kernel, rfl⟩
theorem dL_law_211 : uD 1 cL_law 211 (.aload_n 0) 212 := ⟨by decide +kernel, rfl⟩
theorem dL_law_212 : uD 2 cL_law 212 (.iload 5) 214 := ⟨by decide +kernel, rfl⟩
theorem dL_law_214 : uD 1 cL_law 214 (.iconst 2) 215 := ⟨by decide +kernel, rfl⟩
theorem dL_law_215 : uD 1 cL_law 215 (.iadd) 216 := ⟨by decide +kernel, rfl⟩
theorem dL_law_216 : uD 1 cL_law 216 (.iaload) 217 := ⟨by decide +kernel, rfl⟩
theorem dL_law_217 : uD 1 cL_law 217 (.aload_n 0) 218 := ⟨by decide +kernel, rfl⟩
theorem dL_law_218 : uD 2 cL_law 218 (.iload 5) 220 := ⟨by decide +kernel, rfl⟩
theorem dL_law_220 : uD 1 cL_law 220 (.iconst 3) 221 := ⟨by decide +kernel, rfl⟩
theorem dL_law_221 : uD 1 cL_law 221 (.iadd) 222 := ⟨by decide +kernel, rfl⟩
theorem dL_law_222 : uD 1 cL_law 222 (.iaload) 223 := ⟨by decide +kernel, rfl⟩
theorem dL_law_223 : uD 1 cL_law 223 (.aload_n 0) 224 := ⟨by decide +kernel, rfl⟩
theorem dL_law_224 : uD 2 cL_law 224 (.iload 5) 226 := ⟨by decide +kernel, rfl⟩
theorem dL_law_226 : uD 1 cL_law 226 (.iconst 4) 227 := ⟨by decide +kernel, rfl⟩
theorem dL_law_227 : uD 1 cL_law 227 (.iadd) 228 := ⟨by decide +kernel, rfl⟩
theorem dL_law_228 : uD 1 cL_law 228 (.iaload) 229 := ⟨by decide +kernel, rfl⟩
theorem dL_law_229 : uD 1 cL_law 229 (.aload_n 0) 230 := ⟨by decide +kernel, rfl⟩
theorem dL_law_230 : uD 2 cL_law 230 (.iload 5) 232 := ⟨by decide +kernel, rfl⟩
theorem dL_law_232 : uD 1 cL_law 232 (.iconst 5) 233 := ⟨by decide +kernel, rfl⟩
theorem dL_law_233 : uD 1 cL_law 233 (.iadd) 234 := ⟨by decide +kernel, rfl⟩
theorem dL_law_234 : uD 1 cL_law 234 (.iaload) 235 := ⟨by decide +kernel, rfl⟩
theorem dL_law_235 : uD 1 cL_law 235 (.aload_n 3) 236 := ⟨by decide +kernel, rfl⟩
theorem dL_law_236 : uD 3 cL_law 236 (.invokestatic 119) 239 := ⟨by decide +kernel, rfl⟩
theorem dL_law_239 : uD 2 cL_law 239 (.istore 6) 241 := ⟨by decide +kernel, rfl⟩
theorem dL_law_241 : uD 1 cL_law 241 (.aload_n 2) 242 := ⟨by decide +kernel, rfl⟩
theorem dL_law_242 : uD 1 cL_law 242 (.aload_n 0) 243 := ⟨by decide +kernel, rfl⟩
theorem dL_law_243 : uD 2 cL_law 243 (.iload 5) 245 := ⟨by decide +kernel, rfl⟩
theorem dL_law_245 : uD 1 cL_law 245 (.iconst 1) 246 := ⟨by decide +kernel, rfl⟩
theorem dL_law_246 : uD 1 cL_law 246 (.iadd) 247 := ⟨by decide +kernel, rfl⟩
theorem dL_law_247 : uD 1 cL_law 247 (.iaload) 248 := ⟨by decide +kernel, rfl⟩
theorem dL_law_248 : uD 1 cL_law 248 (.aload_n 0) 249 := ⟨by decide +kernel, rfl⟩
theorem dL_law_249 : uD 2 cL_law 249 (.iload 5) 251 := ⟨by decide +kernel, rfl⟩
theorem dL_law_251 : uD 1 cL_law 251 (.iconst 2) 252 := ⟨by decide +kernel, rfl⟩
theorem dL_law_252 : uD 1 cL_law 252 (.iadd) 253 := ⟨by decide +kernel, rfl⟩
theorem dL_law_253 : uD 1 cL_law 253 (.iaload) 254 := ⟨by decide +kernel, rfl⟩
theorem dL_law_254 : uD 1 cL_law 254 (.aload_n 0) 255 := ⟨by decide +kernel, rfl⟩
theorem dL_law_255 : uD 2 cL_law 255 (.iload 5) 257 := ⟨by decide +kernel, rfl⟩
theorem dL_law_257 : uD 1 cL_law 257 (.iconst 3) 258 := ⟨by decide +kernel, rfl⟩
theorem dL_law_258 : uD 1 cL_law 258 (.iadd) 259 := ⟨by decide +kernel, rfl⟩
theorem dL_law_259 : uD 1 cL_law 259 (.iaload) 260 := ⟨by decide +kernel, rfl⟩
theorem dL_law_260 : uD 1 cL_law 260 (.aload_n 0) 261 := ⟨by decide +kernel, rfl⟩
theorem dL_law_261 : uD 2 cL_law 261 (.iload 5) 263 := ⟨by decide +kernel, rfl⟩
theorem dL_law_263 : uD 1 cL_law 263 (.iconst 4) 264 := ⟨by decide +kernel, rfl⟩
theorem dL_law_264 : uD 1 cL_law 264 (.iadd) 265 := ⟨by decide +kernel, rfl⟩
theorem dL_law_265 : uD 1 cL_law 265 (.iaload) 266 := ⟨by decide +kernel, rfl⟩
theorem dL_law_266 : uD 1 cL_law 266 (.aload_n 0) 267 := ⟨by decide +kernel, rfl⟩
theorem dL_law_267 : uD 2 cL_law 267 (.iload 5) 269 := ⟨by decide +kernel, rfl⟩
theorem dL_law_269 : uD 1 cL_law 269 (.iconst 5) 270 := ⟨by decide +kernel, rfl⟩
theorem dL_law_270 : uD 1 cL_law 270 (.iadd) 271 := ⟨by decide +kernel, rfl⟩
theorem dL_law_271 : uD 1 cL_law 271 (.iaload) 272 := ⟨by decide +kernel, rfl⟩
theorem dL_law_272 : uD 3 cL_law 272 (.invokevirtual 124) 275 := ⟨by decide +kernel, rfl⟩
theorem dL_law_275 : uD 2 cL_law 275 (.istore 7) 277 := ⟨by decide +kernel, rfl⟩
theorem dL_law_277 : uD 1 cL_law 277 (.aload_n 2) 278 := ⟨by decide +kernel, rfl⟩
theorem dL_law_278 : uD 3 cL_law 278 (.invokevirtual 125) 281 := ⟨by decide +kernel, rfl⟩
theorem dL_law_281 : uD 2 cL_law 281 (.iload 6) 283 := ⟨by decide +kernel, rfl⟩
theorem dL_law_283 : uJ cL_law 283 (fun o => .if_icmp .eq o) 288 286 := ⟨5, by decide +kernel, by decide, rfl⟩
theorem dL_law_286 : uD 1 cL_law 286 (.iconst 0) 287 := ⟨by decide +kernel, rfl⟩
theorem dL_law_287 : uD 1 cL_law 287 (.ireturn) 288 := ⟨by decide +kernel, rfl⟩
theorem dL_law_288 : uD 2 cL_law 288 (.iload 6) 290 := ⟨by decide +kernel, rfl⟩
theorem dL_law_290 : uJ cL_law 290 (fun o => .ifCond .ne o) 305 293 := ⟨15, by decide +kernel, by decide, rfl⟩
theorem dL_law_293 : uD 1 cL_law 293 (.aload_n 3) 294 := ⟨by decide +kernel, rfl⟩
theorem dL_law_294 : uD 1 cL_law 294 (.iconst 0) 295 := ⟨by decide +kernel, rfl⟩
theorem dL_law_295 : uD 1 cL_law 295 (.laload) 296 := ⟨by decide +kernel, rfl⟩
theorem dL_law_296 : uD 2 cL_law 296 (.iload 7) 298 := ⟨by decide +kernel, rfl⟩
theorem dL_law_298 : uD 1 cL_law 298 (.i2l) 299 := ⟨by decide +kernel, rfl⟩
theorem dL_law_299 : uD 1 cL_law 299 (.lcmp) 300 := ⟨by decide +kernel, rfl⟩
theorem dL_law_300 : uJ cL_law 300 (fun o => .ifCond .eq o) 305 303 := ⟨5, by decide +kernel, by decide, rfl⟩
theorem dL_law_303 : uD 1 cL_law 303 (.iconst 0) 304 := ⟨by decide +kernel, rfl⟩
theorem dL_law_304 : uD 1 cL_law 304 (.ireturn) 305 := ⟨by decide +kernel, rfl⟩
theorem dL_law_305 : uJ cL_law 305 (fun o => .goto o) 2116 308 := ⟨1811, by decide +kernel, by decide, rfl⟩
theorem dL_law_308 : uD 1 cL_law 308 (.aload_n 1) 309 := ⟨by decide +kernel, rfl⟩
theorem dL_law_309 : uD 1 cL_law 309 (.aload_n 0) 310 := ⟨by decide +kernel, rfl⟩
theorem dL_law_310 : uD 2 cL_law 310 (.iload 5) 312 := ⟨by decide +kernel, rfl⟩
theorem dL_law_312 : uD 1 cL_law 312 (.iconst 1) 313 := ⟨by decide +kernel, rfl⟩
theorem dL_law_313 : uD 1 cL_law 313 (.iadd) 314 := ⟨by decide +kernel, rfl⟩
theorem dL_law_314 : uD 1 cL_law 314 (.iaload) 315 := ⟨by decide +kernel, rfl⟩
theorem dL_law_315 : uD 1 cL_law 315 (.aload_n 3) 316 := ⟨by decide +kernel, rfl⟩
theorem dL_law_316 : uD 3 cL_law 316 (.invokestatic 128) 319 := ⟨by decide +kernel, rfl⟩
theorem dL_law_319 : uD 2 cL_law 319 (.istore 6) 321 := ⟨by decide +kernel, rfl⟩
theorem dL_law_321 : uD 1 cL_law 321 (.aload_n 2) 322 := ⟨by decide +kernel, rfl⟩
theorem dL_law_322 : uD 1 cL_law 322 (.aload_n 0) 323 := ⟨by decide +kernel, rfl⟩
theorem dL_law_323 : uD 2 cL_law 323 (.iload 5) 325 := ⟨by decide +kernel, rfl⟩
theorem dL_law_325 : uD 1 cL_law 325 (.iconst 1) 326 := ⟨by decide +kernel, rfl⟩
theorem dL_law_326 : uD 1 cL_law 326 (.iadd) 327 := ⟨by decide +kernel, rfl⟩
theorem dL_law_327 : uD 1 cL_law 327 (.iaload) 328 := ⟨by decide +kernel, rfl⟩
theorem dL_law_328 : uD 3 cL_law 328 (.invokevirtual 131) 331 := ⟨by decide +kernel, rfl⟩
theorem dL_law_331 : uD 2 cL_law 331 (.istore 7) 333 := ⟨by decide +kernel, rfl⟩
theorem dL_law_333 : uD 1 cL_law 333 (.aload_n 2) 334 := ⟨by decide +kernel, rfl⟩
theorem dL_law_334 : uD 3 cL_law 334 (.invokevirtual 125) 337 := ⟨by decide +kernel, rfl⟩
theorem dL_law_337 : uD 2 cL_law 337 (.iload 6) 339 := ⟨by decide +kernel, rfl⟩
theorem dL_law_339 : uJ cL_law 339 (fun o => .if_icmp .eq o) 344 342 := ⟨5, by decide +kernel, by decide, rfl⟩
theorem dL_law_342 : uD 1 cL_law 342 (.iconst 0) 343 := ⟨by decide +kernel, rfl⟩
theorem dL_law_343 : uD 1 cL_law 343 (.ireturn) 344 := ⟨by decide +kernel, rfl⟩
theorem dL_law_344 : uD 2 cL_law 344 (.iload 6) 346 := ⟨by decide +kernel, rfl⟩
theorem dL_law_346 : uJ cL_law 346 (fun o => .ifCond .ne o) 361 349 := ⟨15, by decide +kernel, by decide, rfl⟩
theorem dL_law_349 : uD 1 cL_law 349 (.aload_n 3) 350 := ⟨by decide +kernel, rfl⟩
theorem dL_law_350 : uD 1 cL_law 350 (.iconst 0) 351 := ⟨by decide +kernel, rfl⟩
theorem dL_law_351 : uD 1 cL_law 351 (.laload) 352 := ⟨by decide +kernel, rfl⟩
theorem dL_law_352 : uD 2 cL_law 352 (.iload 7) 354 := ⟨by decide +kernel, rfl⟩
theorem dL_law_354 : uD 1 cL_law 354 (.i2l) 355 := ⟨by decide +kernel, rfl⟩
theorem dL_law_355 : uD 1 cL_law 355 (.lcmp) 356 := ⟨by decide +kernel, rfl⟩
theorem dL_law_356 : uJ cL_law 356 (fun o => .ifCond .eq o) 361 359 := ⟨5, by decide +kernel, by decide, rfl⟩
theorem dL_law_359 : uD 1 cL_law 359 (.iconst 0) 360 := ⟨by decide +kernel, rfl⟩
theorem dL_law_360 : uD 1 cL_law 360 (.ireturn) 361 := ⟨by decide +kernel, rfl⟩
theorem dL_law_361 : uJ cL_law 361 (fun o => .goto o) 2116 364 := ⟨1755, by decide +kernel, by decide, rfl⟩
theorem dL_law_364 : uD 1 cL_law 364 (.aload_n 1) 365 := ⟨by decide +kernel, rfl⟩
theorem dL_law_365 : uD 1 cL_law 365 (.aload_n 3) 366 := ⟨by decide +kernel, rfl⟩
theorem dL_law_366 : uD 3 cL_law 366 (.invokestatic 132) 369 := ⟨by decide +kernel, rfl⟩
theorem dL_law_369 : uD 2 cL_law 369 (.istore 6) 371 := ⟨by decide +kernel, rfl⟩
theorem dL_law_371 : uD 1 cL_law 371 (.aload_n 2) 372 := ⟨by decide +kernel, rfl⟩
theorem dL_law_372 : uD 3 cL_law 372 (.invokevirtual 135) 375 := ⟨by decide +kernel, rfl⟩
theorem dL_law_375 : uD 2 cL_law 375 (.istore 7) 377 := ⟨by decide +kernel, rfl⟩
theorem dL_law_377 : uD 1 cL_law 377 (.aload_n 2) 378 := ⟨by decide +kernel, rfl⟩
theorem dL_law_378 : uD 3 cL_law 378 (.invokevirtual 125) 381 := ⟨by decide +kernel, rfl⟩
theorem dL_law_381 : uD 2 cL_law 381 (.iload 6) 383 := ⟨by decide +kernel, rfl⟩
theorem dL_law_383 : uJ cL_law 383 (fun o => .if_icmp .eq o) 388 386 := ⟨5, by decide +kernel, by decide, rfl⟩
theorem dL_law_386 : uD 1 cL_law 386 (.iconst 0) 387 := ⟨by decide +kernel, rfl⟩
theorem dL_law_387 : uD 1 cL_law 387 (.ireturn) 388 := ⟨by decide +kernel, rfl⟩
theorem dL_law_388 : uD 2 cL_law 388 (.iload 6) 390 := ⟨by decide +kernel, rfl⟩
theorem dL_law_390 : uJ cL_law 390 (fun o => .ifCond .ne o) 405 393 := ⟨15, by decide +kernel, by decide, rfl⟩
theorem dL_law_393 : uD 1 cL_law 393 (.aload_n 3) 394 := ⟨by decide +kernel, rfl⟩
theorem dL_law_394 : uD 1 cL_law 394 (.iconst 0) 395 := ⟨by decide +kernel, rfl⟩
theorem dL_law_395 : uD 1 cL_law 395 (.laload) 396 := ⟨by decide +kernel, rfl⟩
theorem dL_law_396 : uD 2 cL_law 396 (.iload 7) 398 := ⟨by decide +kernel, rfl⟩
theorem dL_law_398 : uD 1 cL_law 398 (.i2l) 399 := ⟨by decide +kernel, rfl⟩
theorem dL_law_399 : uD 1 cL_law 399 (.lcmp) 400 := ⟨by decide +kernel, rfl⟩
theorem dL_law_400 : uJ cL_law 400 (fun o => .ifCond .eq o) 405 403 := ⟨5, by decide +kernel, by decide, rfl⟩
theorem dL_law_403 : uD 1 cL_law 403 (.iconst 0) 404 := ⟨by decide +kernel, rfl⟩
theorem dL_law_404 : uD 1 cL_law 404 (.ireturn) 405 := ⟨by decide +kernel, rfl⟩
theorem dL_law_405 : uJ cL_law 405 (fun o => .goto o) 2116 408 := ⟨1711, by decide +kernel, by decide, rfl⟩
theorem dL_law_408 : uD 1 cL_law 408 (.aload_n 1) 409 := ⟨by decide +kernel, rfl⟩
theorem dL_law_409 : uD 3 cL_law 409 (.invokevirtual 136) 412 := ⟨by decide +kernel, rfl⟩
theorem dL_law_412 : uD 1 cL_law 412 (.aload_n 2) 413 := ⟨by decide +kernel, rfl⟩
theorem dL_law_413 : uD 3 cL_law 413 (.invokevirtual 139) 416 := ⟨by decide +kernel, rfl⟩
theorem dL_law_416 : uJ cL_law 416 (fun o => .if_icmp .eq o) 2116 419 := ⟨1700, by decide +kernel, by decide, rfl⟩
theorem dL_law_419 : uD 1 cL_law 419 (.iconst 0) 420 := ⟨by decide +kernel, rfl⟩
theorem dL_law_420 : uD 1 cL_law 420 (.ireturn) 421 := ⟨by decide +kernel, rfl⟩
theorem dL_law_421 : uD 1 cL_law 421 (.aload_n 1) 422 := ⟨by decide +kernel, rfl⟩
theorem dL_law_422 : uD 3 cL_law 422 (.invokevirtual 140) 425 := ⟨by decide +kernel, rfl⟩
theorem dL_law_425 : uD 1 cL_law 425 (.aload_n 2) 426 := ⟨by decide +kernel, rfl⟩
theorem dL_law_426 : uD 3 cL_law 426 (.invokevirtual 143) 429 := ⟨by decide +kernel, rfl⟩
theorem dL_law_429 : uJ cL_law 429 (fun o => .if_icmp .eq o) 2116 432 := ⟨1687, by decide +kernel, by decide, rfl⟩
theorem dL_law_432 : uD 1 cL_law 432 (.iconst 0) 433 := ⟨by decide +kernel, rfl⟩
theorem dL_law_433 : uD 1 cL_law 433 (.ireturn) 434 := ⟨by decide +kernel, rfl⟩
theorem dL_law_434 : uD 1 cL_law 434 (.aload_n 1) 435 := ⟨by decide +kernel, rfl⟩
theorem dL_law_435 : uD 1 cL_law 435 (.aload_n 0) 436 := ⟨by decide +kernel, rfl⟩
theorem dL_law_436 : uD 2 cL_law 436 (.iload 5) 438 := ⟨by decide +kernel, rfl⟩
theorem dL_law_438 : uD 1 cL_law 438 (.iconst 1) 439 := ⟨by decide +kernel, rfl⟩
theorem dL_law_439 : uD 1 cL_law 439 (.iadd) 440 := ⟨by decide +kernel, rfl⟩
theorem dL_law_440 : uD 1 cL_law 440 (.iaload) 441 := ⟨by decide +kernel, rfl⟩
theorem dL_law_441 : uD 1 cL_law 441 (.aload_n 3) 442 := ⟨by decide +kernel, rfl⟩
theorem dL_law_442 : uD 3 cL_law 442 (.invokestatic 144) 445 := ⟨by decide +kernel, rfl⟩
theorem dL_law_445 : uD 2 cL_law 445 (.istore 6) 447 := ⟨by decide +kernel, rfl⟩
theorem dL_law_447 : uD 1 cL_law 447 (.aload_n 2) 448 := ⟨by decide +kernel, rfl⟩
theorem dL_law_448 : uD 1 cL_law 448 (.aload_n 0) 449 := ⟨by decide +kernel, rfl⟩
theorem dL_law_449 : uD 2 cL_law 449 (.iload 5) 451 := ⟨by decide +kernel, rfl⟩
theorem dL_law_451 : uD 1 cL_law 451 (.iconst 1) 452 := ⟨by decide +kernel, rfl⟩
theorem dL_law_452 : uD 1 cL_law 452 (.iadd) 453 := ⟨by decide +kernel, rfl⟩
theorem dL_law_453 : uD 1 cL_law 453 (.iaload) 454 := ⟨by decide +kernel, rfl⟩
theorem dL_law_454 : uD 3 cL_law 454 (.invokevirtual 146) 457 := ⟨by decide +kernel, rfl⟩
theorem dL_law_457 : uD 2 cL_law 457 (.istore 7) 459 := ⟨by decide +kernel, rfl⟩
theorem dL_law_459 : uD 1 cL_law 459 (.aload_n 2) 460 := ⟨by decide +kernel, rfl⟩
theorem dL_law_460 : uD 3 cL_law 460 (.invokevirtual 125) 463 := ⟨by decide +kernel, rfl⟩
theorem dL_law_463 : uD 2 cL_law 463 (.iload 6) 465 := ⟨by decide +kernel, rfl⟩
theorem dL_law_465 : uJ cL_law 465 (fun o => .if_icmp .eq o) 470 468 := ⟨5, by decide +kernel, by decide, rfl⟩
theorem dL_law_468 : uD 1 cL_law 468 (.iconst 0) 469 := ⟨by decide +kernel, rfl⟩
theorem dL_law_469 : uD 1 cL_law 469 (.ireturn) 470 := ⟨by decide +kernel, rfl⟩
theorem dL_law_470 : uD 2 cL_law 470 (.iload 6) 472 := ⟨by decide +kernel, rfl⟩
theorem dL_law_472 : uJ cL_law 472 (fun o => .ifCond .ne o) 487 475 := ⟨15, by decide +kernel, by decide, rfl⟩
theorem dL_law_475 : uD 1 cL_law 475 (.aload_n 3) 476 := ⟨by decide +kernel, rfl⟩
theorem dL_law_476 : uD 1 cL_law 476 (.iconst 0) 477 := ⟨by decide +kernel, rfl⟩
theorem dL_law_477 : uD 1 cL_law 477 (.laload) 478 := ⟨by decide +kernel, rfl⟩
theorem dL_law_478 : uD 2 cL_law 478 (.iload 7) 480 := ⟨by decide +kernel, rfl⟩
theorem dL_law_480 : uD 1 cL_law 480 (.i2l) 481 := ⟨by decide +kernel, rfl⟩
theorem dL_law_481 : uD 1 cL_law 481 (.lcmp) 482 := ⟨by decide +kernel, rfl⟩
theorem dL_law_482 : uJ cL_law 482 (fun o => .ifCond .eq o) 487 485 := ⟨5, by decide +kernel, by decide, rfl⟩
theorem dL_law_485 : uD 1 cL_law 485 (.iconst 0) 486 := ⟨by decide +kernel, rfl⟩
theorem dL_law_486 : uD 1 cL_law 486 (.ireturn) 487 := ⟨by decide +kernel, rfl⟩
theorem dL_law_487 : uJ cL_law 487 (fun o => .goto o) 2116 490 := ⟨1629, by decide +kernel, by decide, rfl⟩
theorem dL_law_490 : uD 1 cL_law 490 (.aload_n 1) 491 := ⟨by decide +kernel, rfl⟩
theorem dL_law_491 : uD 1 cL_law 491 (.aload_n 0) 492 := ⟨by decide +kernel, rfl⟩
theorem dL_law_492 : uD 2 cL_law 492 (.iload 5) 494 := ⟨by decide +kernel, rfl⟩
theorem dL_law_494 : uD 1 cL_law 494 (.iconst 1) 495 := ⟨by decide +kernel, rfl⟩
theorem dL_law_495 : uD 1 cL_law 495 (.iadd) 496 := ⟨by decide +kernel, rfl⟩
theorem dL_law_496 : uD 1 cL_law 496 (.iaload) 497 := ⟨by decide +kernel, rfl⟩
theorem dL_law_497 : uD 1 cL_law 497 (.aload_n 0) 498 := ⟨by decide +kernel, rfl⟩
theorem dL_law_498 : uD 2 cL_law 498 (.iload 5) 500 := ⟨by decide +kernel, rfl⟩
theorem dL_law_500 : uD 1 cL_law 500 (.iconst 2) 501 := ⟨by decide +kernel, rfl⟩
theorem dL_law_501 : uD 1 cL_law 501 (.iadd) 502 := ⟨by decide +kernel, rfl⟩
theorem dL_law_502 : uD 1 cL_law 502 (.iaload) 503 := ⟨by decide +kernel, rfl⟩
theorem dL_law_503 : uD 1 cL_law 503 (.aload_n 3) 504 := ⟨by decide +kernel, rfl⟩
theorem dL_law_504 : uD 3 cL_law 504 (.invokestatic 147) 507 := ⟨by decide +kernel, rfl⟩
theorem dL_law_507 : uD 2 cL_law 507 (.istore 6) 509 := ⟨by decide +kernel, rfl⟩
theorem dL_law_509 : uD 1 cL_law 509 (.aload_n 2) 510 := ⟨by decide +kernel, rfl⟩
theorem dL_law_510 : uD 1 cL_law 510 (.aload_n 0) 511 := ⟨by decide +kernel, rfl⟩
theorem dL_law_511 : uD 2 cL_law 511 (.iload 5) 513 := ⟨by decide +kernel, rfl⟩
theorem dL_law_513 : uD 1 cL_law 513 (.iconst 1) 514 := ⟨by decide +kernel, rfl⟩
theorem dL_law_514 : uD 1 cL_law 514 (.iadd) 515 := ⟨by decide +kernel, rfl⟩
theorem dL_law_515 : uD 1 cL_law 515 (.iaload) 516 := ⟨by decide +kernel, rfl⟩
theorem dL_law_516 : uD 1 cL_law 516 (.aload_n 0) 517 := ⟨by decide +kernel, rfl⟩
theorem dL_law_517 : uD 2 cL_law 517 (.iload 5) 519 := ⟨by decide +kernel, rfl⟩
theorem dL_law_519 : uD 1 cL_law 519 (.iconst 2) 520 := ⟨by decide +kernel, rfl⟩
theorem dL_law_520 : uD 1 cL_law 520 (.iadd) 521 := ⟨by decide +kernel, rfl⟩
theorem dL_law_521 : uD 1 cL_law 521 (.iaload) 522 := ⟨by decide +kernel, rfl⟩
theorem dL_law_522 : uD 3 cL_law 522 (.invokevirtual 150) 525 := ⟨by decide +kernel, rfl⟩
theorem dL_law_525 : uD 2 cL_law 525 (.istore 7) 527 := ⟨by decide +kernel, rfl⟩
theorem dL_law_527 : uD 1 cL_law 527 (.aload_n 2) 528 := ⟨by decide +kernel, rfl⟩
theorem dL_law_528 : uD 3 cL_law 528 (.invokevirtual 125) 531 := ⟨by decide +kernel, rfl⟩
theorem dL_law_531 : uD 2 cL_law 531 (.iload 6) 533 := ⟨by decide +kernel, rfl⟩
theorem dL_law_533 : uJ cL_law 533 (fun o => .if_icmp .eq o) 538 536 := ⟨5, by decide +kernel, by decide, rfl⟩
theorem dL_law_536 : uD 1 cL_law 536 (.iconst 0) 537 := ⟨by decide +kernel, rfl⟩
theorem dL_law_537 : uD 1 cL_law 537 (.ireturn) 538 := ⟨by decide +kernel, rfl⟩
theorem dL_law_538 : uD 2 cL_law 538 (.iload 6) 540 := ⟨by decide +kernel, rfl⟩
theorem dL_law_540 : uJ cL_law 540 (fun o => .ifCond .ne o) 555 543 := ⟨15, by decide +kernel, by decide, rfl⟩
theorem dL_law_543 : uD 1 cL_law 543 (.aload_n 3) 544 := ⟨by decide +kernel, rfl⟩
theorem dL_law_544 : uD 1 cL_law 544 (.iconst 0) 545 := ⟨by decide +kernel, rfl⟩
theorem dL_law_545 : uD 1 cL_law 545 (.laload) 546 := ⟨by decide +kernel, rfl⟩
theorem dL_law_546 : uD 2 cL_law 546 (.iload 7) 548 := ⟨by decide +kernel, rfl⟩
theorem dL_law_548 : uD 1 cL_law 548 (.i2l) 549 := ⟨by decide +kernel, rfl⟩
theorem dL_law_549 : uD 1 cL_law 549 (.lcmp) 550 := ⟨by decide +kernel, rfl⟩
theorem dL_law_550 : uJ cL_law 550 (fun o => .ifCond .eq o) 555 553 := ⟨5, by decide +kernel, by decide, rfl⟩
theorem dL_law_553 : uD 1 cL_law 553 (.iconst 0) 554 := ⟨by decide +kernel, rfl⟩
theorem dL_law_554 : uD 1 cL_law 554 (.ireturn) 555 := ⟨by decide +kernel, rfl⟩
theorem dL_law_555 : uJ cL_law 555 (fun o => .goto o) 2116 558 := ⟨1561, by decide +kernel, by decide, rfl⟩
theorem dL_law_558 : uD 1 cL_law 558 (.aload_n 1) 559 := ⟨by decide +kernel, rfl⟩
theorem dL_law_559 : uD 1 cL_law 559 (.aload_n 0) 560 := ⟨by decide +kernel, rfl⟩
theorem dL_law_560 : uD 2 cL_law 560 (.iload 5) 562 := ⟨by decide +kernel, rfl⟩
theorem dL_law_562 : uD 1 cL_law 562 (.iconst 1) 563 := ⟨by decide +kernel, rfl⟩
theorem dL_law_563 : uD 1 cL_law 563 (.iadd) 564 := ⟨by decide +kernel, rfl⟩
theorem dL_law_564 : uD 1 cL_law 564 (.iaload) 565 := ⟨by decide +kernel, rfl⟩
theorem dL_law_565 : uD 1 cL_law 565 (.aload_n 0) 566 := ⟨by decide +kernel, rfl⟩
theorem dL_law_566 : uD 2 cL_law 566 (.iload 5) 568 := ⟨by decide +kernel, rfl⟩
theorem dL_law_568 : uD 1 cL_law 568 (.iconst 2) 569 := ⟨by decide +kernel, rfl⟩
theorem dL_law_569 : uD 1 cL_law 569 (.iadd) 570 := ⟨by decide +kernel, rfl⟩
theorem dL_law_570 : uD 1 cL_law 570 (.iaload) 571 := ⟨by decide +kernel, rfl⟩
theorem dL_law_571 : uD 1 cL_law 571 (.aload_n 3) 572 := ⟨by decide +kernel, rfl⟩
theorem dL_law_572 : uD 3 cL_law 572 (.invokestatic 151) 575 := ⟨by decide +kernel, rfl⟩
theorem dL_law_575 : uD 2 cL_law 575 (.istore 6) 577 := ⟨by decide +kernel, rfl⟩
theorem dL_law_577 : uD 1 cL_law 577 (.aload_n 2) 578 := ⟨by decide +kernel, rfl⟩
theorem dL_law_578 : uD 1 cL_law 578 (.aload_n 0) 579 := ⟨by decide +kernel, rfl⟩
theorem dL_law_579 : uD 2 cL_law 579 (.iload 5) 581 := ⟨by decide +kernel, rfl⟩
theorem dL_law_581 : uD 1 cL_law 581 (.iconst 1) 582 := ⟨by decide +kernel, rfl⟩
theorem dL_law_582 : uD 1 cL_law 582 (.iadd) 583 := ⟨by decide +kernel, rfl⟩
theorem dL_law_583 : uD 1 cL_law 583 (.iaload) 584 := ⟨by decide +kernel, rfl⟩
theorem dL_law_584 : uD 1 cL_law 584 (.aload_n 0) 585 := ⟨by decide +kernel, rfl⟩
theorem dL_law_585 : uD 2 cL_law 585 (.iload 5) 587 := ⟨by decide +kernel, rfl⟩
theorem dL_law_587 : uD 1 cL_law 587 (.iconst 2) 588 := ⟨by decide +kernel, rfl⟩
theorem dL_law_588 : uD 1 cL_law 588 (.iadd) 589 := ⟨by decide +kernel, rfl⟩
theorem dL_law_589 : uD 1 cL_law 589 (.iaload) 590 := ⟨by decide +kernel, rfl⟩
theorem dL_law_590 : uD 3 cL_law 590 (.invokevirtual 153) 593 := ⟨by decide +kernel, rfl⟩
theorem dL_law_593 : uD 2 cL_law 593 (.istore 7) 595 := ⟨by decide +kernel, rfl⟩
theorem dL_law_595 : uD 1 cL_law 595 (.aload_n 2) 596 := ⟨by decide +kernel, rfl⟩
theorem dL_law_596 : uD 3 cL_law 596 (.invokevirtual 125) 599 := ⟨by decide +kernel, rfl⟩
theorem dL_law_599 : uD 2 cL_law 599 (.iload 6) 601 := ⟨by decide +kernel, rfl⟩
theorem dL_law_601 : uJ cL_law 601 (fun o => .if_icmp .eq o) 606 604 := ⟨5, by decide +kernel, by decide, rfl⟩
theorem dL_law_604 : uD 1 cL_law 604 (.iconst 0) 605 := ⟨by decide +kernel, rfl⟩
theorem dL_law_605 : uD 1 cL_law 605 (.ireturn) 606 := ⟨by decide +kernel, rfl⟩
theorem dL_law_606 : uD 2 cL_law 606 (.iload 6) 608 := ⟨by decide +kernel, rfl⟩
theorem dL_law_608 : uJ cL_law 608 (fun o => .ifCond .ne o) 623 611 := ⟨15, by decide +kernel, by decide, rfl⟩
theorem dL_law_611 : uD 1 cL_law 611 (.aload_n 3) 612 := ⟨by decide +kernel, rfl⟩
theorem dL_law_612 : uD 1 cL_law 612 (.iconst 0) 613 := ⟨by decide +kernel, rfl⟩
theorem dL_law_613 : uD 1 cL_law 613 (.laload) 614 := ⟨by decide +kernel, rfl⟩
theorem dL_law_614 : uD 2 cL_law 614 (.iload 7) 616 := ⟨by decide +kernel, rfl⟩
theorem dL_law_616 : uD 1 cL_law 616 (.i2l) 617 := ⟨by decide +kernel, rfl⟩
theorem dL_law_617 : uD 1 cL_law 617 (.lcmp) 618 := ⟨by decide +kernel, rfl⟩
theorem dL_law_618 : uJ cL_law 618 (fun o => .ifCond .eq o) 623 621 := ⟨5, by decide +kernel, by decide, rfl⟩
theorem dL_law_621 : uD 1 cL_law 621 (.iconst 0) 622 := ⟨by decide +kernel, rfl⟩
theorem dL_law_622 : uD 1 cL_law 622 (.ireturn) 623 := ⟨by decide +kernel, rfl⟩
theorem dL_law_623 : uJ cL_law 623 (fun o => .goto o) 2116 626 := ⟨1493, by decide +kernel, by decide, rfl⟩
theorem dL_law_626 : uD 1 cL_law 626 (.aload_n 1) 627 := ⟨by decide +kernel, rfl⟩
theorem dL_law_627 : uD 1 cL_law 627 (.aload_n 0) 628 := ⟨by decide +kernel, rfl⟩
theorem dL_law_628 : uD 2 cL_law 628 (.iload 5) 630 := ⟨by decide +kernel, rfl⟩
theorem dL_law_630 : uD 1 cL_law 630 (.iconst 1) 631 := ⟨by decide +kernel, rfl⟩
theorem dL_law_631 : uD 1 cL_law 631 (.iadd) 632 := ⟨by decide +kernel, rfl⟩
theorem dL_law_632 : uD 1 cL_law 632 (.iaload) 633 := ⟨by decide +kernel, rfl⟩
theorem dL_law_633 : uD 1 cL_law 633 (.aload_n 0) 634 := ⟨by decide +kernel, rfl⟩
theorem dL_law_634 : uD 2 cL_law 634 (.iload 5) 636 := ⟨by decide +kernel, rfl⟩
theorem dL_law_636 : uD 1 cL_law 636 (.iconst 2) 637 := ⟨by decide +kernel, rfl⟩
theorem dL_law_637 : uD 1 cL_law 637 (.iadd) 638 := ⟨by decide +kernel, rfl⟩
theorem dL_law_638 : uD 1 cL_law 638 (.iaload) 639 := ⟨by decide +kernel, rfl⟩
theorem dL_law_639 : uD 1 cL_law 639 (.aload_n 3) 640 := ⟨by decide +kernel, rfl⟩
theorem dL_law_640 : uD 3 cL_law 640 (.invokestatic 154) 643 := ⟨by decide +kernel, rfl⟩
theorem dL_law_643 : uD 2 cL_law 643 (.istore 6) 645 := ⟨by decide +kernel, rfl⟩
theorem dL_law_645 : uD 1 cL_law 645 (.aload_n 2) 646 := ⟨by decide +kernel, rfl⟩
theorem dL_law_646 : uD 1 cL_law 646 (.aload_n 0) 647 := ⟨by decide +kernel, rfl⟩
theorem dL_law_647 : uD 2 cL_law 647 (.iload 5) 649 := ⟨by decide +kernel, rfl⟩
theorem dL_law_649 : uD 1 cL_law 649 (.iconst 1) 650 := ⟨by decide +kernel, rfl⟩
theorem dL_law_650 : uD 1 cL_law 650 (.iadd) 651 := ⟨by decide +kernel, rfl⟩
theorem dL_law_651 : uD 1 cL_law 651 (.iaload) 652 := ⟨by decide +kernel, rfl⟩
theorem dL_law_652 : uD 1 cL_law 652 (.aload_n 0) 653 := ⟨by decide +kernel, rfl⟩
theorem dL_law_653 : uD 2 cL_law 653 (.iload 5) 655 := ⟨by decide +kernel, rfl⟩
theorem dL_law_655 : uD 1 cL_law 655 (.iconst 2) 656 := ⟨by decide +kernel, rfl⟩
theorem dL_law_656 : uD 1 cL_law 656 (.iadd) 657 := ⟨by decide +kernel, rfl⟩
theorem dL_law_657 : uD 1 cL_law 657 (.iaload) 658 := ⟨by decide +kernel, rfl⟩
theorem dL_law_658 : uD 3 cL_law 658 (.invokevirtual 156) 661 := ⟨by decide +kernel, rfl⟩
theorem dL_law_661 : uD 2 cL_law 661 (.istore 7) 663 := ⟨by decide +kernel, rfl⟩
theorem dL_law_663 : uD 1 cL_law 663 (.aload_n 2) 664 := ⟨by decide +kernel, rfl⟩
theorem dL_law_664 : uD 3 cL_law 664 (.invokevirtual 125) 667 := ⟨by decide +kernel, rfl⟩
theorem dL_law_667 : uD 2 cL_law 667 (.iload 6) 669 := ⟨by decide +kernel, rfl⟩
theorem dL_law_669 : uJ cL_law 669 (fun o => .if_icmp .eq o) 674 672 := ⟨5, by decide +kernel, by decide, rfl⟩
theorem dL_law_672 : uD 1 cL_law 672 (.iconst 0) 673 := ⟨by decide +kernel, rfl⟩
theorem dL_law_673 : uD 1 cL_law 673 (.ireturn) 674 := ⟨by decide +kernel, rfl⟩
theorem dL_law_674 : uD 2 cL_law 674 (.iload 6) 676 := ⟨by decide +kernel, rfl⟩
theorem dL_law_676 : uJ cL_law 676 (fun o => .ifCond .ne o) 691 679 := ⟨15, by decide +kernel, by decide, rfl⟩
theorem dL_law_679 : uD 1 cL_law 679 (.aload_n 3) 680 := ⟨by decide +kernel, rfl⟩
theorem dL_law_680 : uD 1 cL_law 680 (.iconst 0) 681 := ⟨by decide +kernel, rfl⟩
theorem dL_law_681 : uD 1 cL_law 681 (.laload) 682 := ⟨by decide +kernel, rfl⟩
theorem dL_law_682 : uD 2 cL_law 682 (.iload 7) 684 := ⟨by decide +kernel, rfl⟩
theorem dL_law_684 : uD 1 cL_law 684 (.i2l) 685 := ⟨by decide +kernel, rfl⟩
theorem dL_law_685 : uD 1 cL_law 685 (.lcmp) 686 := ⟨by decide +kernel, rfl⟩
theorem dL_law_686 : uJ cL_law 686 (fun o => .ifCond .eq o) 691 689 := ⟨5, by decide +kernel, by decide, rfl⟩
theorem dL_law_689 : uD 1 cL_law 689 (.iconst 0) 690 := ⟨by decide +kernel, rfl⟩
theorem dL_law_690 : uD 1 cL_law 690 (.ireturn) 691 := ⟨by decide +kernel, rfl⟩
theorem dL_law_691 : uJ cL_law 691 (fun o => .goto o) 2116 694 := ⟨1425, by decide +kernel, by decide, rfl⟩
theorem dL_law_694 : uD 1 cL_law 694 (.aload_n 1) 695 := ⟨by decide +kernel, rfl⟩
theorem dL_law_695 : uD 1 cL_law 695 (.aload_n 3) 696 := ⟨by decide +kernel, rfl⟩
theorem dL_law_696 : uD 3 cL_law 696 (.invokestatic 157) 699 := ⟨by decide +kernel, rfl⟩
theorem dL_law_699 : uD 2 cL_law 699 (.istore 6) 701 := ⟨by decide +kernel, rfl⟩
theorem dL_law_701 : uD 1 cL_law 701 (.aload_n 2) 702 := ⟨by decide +kernel, rfl⟩
theorem dL_law_702 : uD 3 cL_law 702 (.invokevirtual 159) 705 := ⟨by decide +kernel, rfl⟩
theorem dL_law_705 : uD 2 cL_law 705 (.istore 7) 707 := ⟨by decide +kernel, rfl⟩
theorem dL_law_707 : uD 1 cL_law 707 (.aload_n 2) 708 := ⟨by decide +kernel, rfl⟩
theorem dL_law_708 : uD 3 cL_law 708 (.invokevirtual 125) 711 := ⟨by decide +kernel, rfl⟩
theorem dL_law_711 : uD 2 cL_law 711 (.iload 6) 713 := ⟨by decide +kernel, rfl⟩
theorem dL_law_713 : uJ cL_law 713 (fun o => .if_icmp .eq o) 718 716 := ⟨5, by decide +kernel, by decide, rfl⟩
theorem dL_law_716 : uD 1 cL_law 716 (.iconst 0) 717 := ⟨by decide +kernel, rfl⟩
theorem dL_law_717 : uD 1 cL_law 717 (.ireturn) 718 := ⟨by decide +kernel, rfl⟩
theorem dL_law_718 : uD 2 cL_law 718 (.iload 6) 720 := ⟨by decide +kernel, rfl⟩
theorem dL_law_720 : uJ cL_law 720 (fun o => .ifCond .ne o) 735 723 := ⟨15, by decide +kernel, by decide, rfl⟩
theorem dL_law_723 : uD 1 cL_law 723 (.aload_n 3) 724 := ⟨by decide +kernel, rfl⟩
theorem dL_law_724 : uD 1 cL_law 724 (.iconst 0) 725 := ⟨by decide +kernel, rfl⟩
theorem dL_law_725 : uD 1 cL_law 725 (.laload) 726 := ⟨by decide +kernel, rfl⟩
theorem dL_law_726 : uD 2 cL_law 726 (.iload 7) 728 := ⟨by decide +kernel, rfl⟩
theorem dL_law_728 : uD 1 cL_law 728 (.i2l) 729 := ⟨by decide +kernel, rfl⟩
theorem dL_law_729 : uD 1 cL_law 729 (.lcmp) 730 := ⟨by decide +kernel, rfl⟩
theorem dL_law_730 : uJ cL_law 730 (fun o => .ifCond .eq o) 735 733 := ⟨5, by decide +kernel, by decide, rfl⟩
theorem dL_law_733 : uD 1 cL_law 733 (.iconst 0) 734 := ⟨by decide +kernel, rfl⟩
theorem dL_law_734 : uD 1 cL_law 734 (.ireturn) 735 := ⟨by decide +kernel, rfl⟩
theorem dL_law_735 : uJ cL_law 735 (fun o => .goto o) 2116 738 := ⟨1381, by decide +kernel, by decide, rfl⟩
theorem dL_law_738 : uD 1 cL_law 738 (.aload_n 1) 739 := ⟨by decide +kernel, rfl⟩
theorem dL_law_739 : uD 1 cL_law 739 (.aload_n 0) 740 := ⟨by decide +kernel, rfl⟩
theorem dL_law_740 : uD 2 cL_law 740 (.iload 5) 742 := ⟨by decide +kernel, rfl⟩
theorem dL_law_742 : uD 1 cL_law 742 (.iconst 1) 743 := ⟨by decide +kernel, rfl⟩
theorem dL_law_743 : uD 1 cL_law 743 (.iadd) 744 := ⟨by decide +kernel, rfl⟩
theorem dL_law_744 : uD 1 cL_law 744 (.iaload) 745 := ⟨by decide +kernel, rfl⟩
theorem dL_law_745 : uD 1 cL_law 745 (.aload_n 3) 746 := ⟨by decide +kernel, rfl⟩
theorem dL_law_746 : uD 3 cL_law 746 (.invokestatic 160) 749 := ⟨by decide +kernel, rfl⟩
theorem dL_law_749 : uD 2 cL_law 749 (.istore 6) 751 := ⟨by decide +kernel, rfl⟩
theorem dL_law_751 : uD 1 cL_law 751 (.aload_n 2) 752 := ⟨by decide +kernel, rfl⟩
theorem dL_law_752 : uD 1 cL_law 752 (.aload_n 0) 753 := ⟨by decide +kernel, rfl⟩
theorem dL_law_753 : uD 2 cL_law 753 (.iload 5) 755 := ⟨by decide +kernel, rfl⟩
theorem dL_law_755 : uD 1 cL_law 755 (.iconst 1) 756 := ⟨by decide +kernel, rfl⟩
theorem dL_law_756 : uD 1 cL_law 756 (.iadd) 757 := ⟨by decide +kernel, rfl⟩
theorem dL_law_757 : uD 1 cL_law 757 (.iaload) 758 := ⟨by decide +kernel, rfl⟩
theorem dL_law_758 : uD 3 cL_law 758 (.invokevirtual 162) 761 := ⟨by decide +kernel, rfl⟩
theorem dL_law_761 : uD 2 cL_law 761 (.istore 7) 763 := ⟨by decide +kernel, rfl⟩
theorem dL_law_763 : uD 1 cL_law 763 (.aload_n 2) 764 := ⟨by decide +kernel, rfl⟩
theorem dL_law_764 : uD 3 cL_law 764 (.invokevirtual 125) 767 := ⟨by decide +kernel, rfl⟩
theorem dL_law_767 : uD 2 cL_law 767 (.iload 6) 769 := ⟨by decide +kernel, rfl⟩
theorem dL_law_769 : uJ cL_law 769 (fun o => .if_icmp .eq o) 774 772 := ⟨5, by decide +kernel, by decide, rfl⟩
theorem dL_law_772 : uD 1 cL_law 772 (.iconst 0) 773 := ⟨by decide +kernel, rfl⟩
theorem dL_law_773 : uD 1 cL_law 773 (.ireturn) 774 := ⟨by decide +kernel, rfl⟩
theorem dL_law_774 : uD 2 cL_law 774 (.iload 6) 776 := ⟨by decide +kernel, rfl⟩
theorem dL_law_776 : uJ cL_law 776 (fun o => .ifCond .ne o) 791 779 := ⟨15, by decide +kernel, by decide, rfl⟩
theorem dL_law_779 : uD 1 cL_law 779 (.aload_n 3) 780 := ⟨by decide +kernel, rfl⟩
theorem dL_law_780 : uD 1 cL_law 780 (.iconst 0) 781 := ⟨by decide +kernel, rfl⟩
theorem dL_law_781 : uD 1 cL_law 781 (.laload) 782 := ⟨by decide +kernel, rfl⟩
theorem dL_law_782 : uD 2 cL_law 782 (.iload 7) 784 := ⟨by decide +kernel, rfl⟩
theorem dL_law_784 : uD 1 cL_law 784 (.i2l) 785 := ⟨by decide +kernel, rfl⟩
theorem dL_law_785 : uD 1 cL_law 785 (.lcmp) 786 := ⟨by decide +kernel, rfl⟩
theorem dL_law_786 : uJ cL_law 786 (fun o => .ifCond .eq o) 791 789 := ⟨5, by decide +kernel, by decide, rfl⟩
theorem dL_law_789 : uD 1 cL_law 789 (.iconst 0) 790 := ⟨by decide +kernel, rfl⟩
theorem dL_law_790 : uD 1 cL_law 790 (.ireturn) 791 := ⟨by decide +kernel, rfl⟩
theorem dL_law_791 : uJ cL_law 791 (fun o => .goto o) 2116 794 := ⟨1325, by decide +kernel, by decide, rfl⟩
theorem dL_law_794 : uD 1 cL_law 794 (.aload_n 1) 795 := ⟨by decide +kernel, rfl⟩
theorem dL_law_795 : uD 1 cL_law 795 (.aload_n 0) 796 := ⟨by decide +kernel, rfl⟩
theorem dL_law_796 : uD 2 cL_law 796 (.iload 5) 798 := ⟨by decide +kernel, rfl⟩
theorem dL_law_798 : uD 1 cL_law 798 (.iconst 1) 799 := ⟨by decide +kernel, rfl⟩
theorem dL_law_799 : uD 1 cL_law 799 (.iadd) 800 := ⟨by decide +kernel, rfl⟩
theorem dL_law_800 : uD 1 cL_law 800 (.iaload) 801 := ⟨by decide +kernel, rfl⟩
theorem dL_law_801 : uD 1 cL_law 801 (.aload_n 0) 802 := ⟨by decide +kernel, rfl⟩
theorem dL_law_802 : uD 2 cL_law 802 (.iload 5) 804 := ⟨by decide +kernel, rfl⟩
theorem dL_law_804 : uD 1 cL_law 804 (.iconst 2) 805 := ⟨by decide +kernel, rfl⟩
theorem dL_law_805 : uD 1 cL_law 805 (.iadd) 806 := ⟨by decide +kernel, rfl⟩
theorem dL_law_806 : uD 1 cL_law 806 (.iaload) 807 := ⟨by decide +kernel, rfl⟩
theorem dL_law_807 : uD 1 cL_law 807 (.aload_n 0) 808 := ⟨by decide +kernel, rfl⟩
theorem dL_law_808 : uD 2 cL_law 808 (.iload 5) 810 := ⟨by decide +kernel, rfl⟩
theorem dL_law_810 : uD 1 cL_law 810 (.iconst 3) 811 := ⟨by decide +kernel, rfl⟩
theorem dL_law_811 : uD 1 cL_law 811 (.iadd) 812 := ⟨by decide +kernel, rfl⟩
theorem dL_law_812 : uD 1 cL_law 812 (.iaload) 813 := ⟨by decide +kernel, rfl⟩
theorem dL_law_813 : uD 1 cL_law 813 (.aload_n 3) 814 := ⟨by decide +kernel, rfl⟩
theorem dL_law_814 : uD 3 cL_law 814 (.invokestatic 163) 817 := ⟨by decide +kernel, rfl⟩
theorem dL_law_817 : uD 2 cL_law 817 (.istore 6) 819 := ⟨by decide +kernel, rfl⟩
theorem dL_law_819 : uD 1 cL_law 819 (.aload_n 2) 820 := ⟨by decide +kernel, rfl⟩
theorem dL_law_820 : uD 1 cL_law 820 (.aload_n 0) 821 := ⟨by decide +kernel, rfl⟩
theorem dL_law_821 : uD 2 cL_law 821 (.iload 5) 823 := ⟨by decide +kernel, rfl⟩
theorem dL_law_823 : uD 1 cL_law 823 (.iconst 1) 824 := ⟨by decide +kernel, rfl⟩
theorem dL_law_824 : uD 1 cL_law 824 (.iadd) 825 := ⟨by decide +kernel, rfl⟩
theorem dL_law_825 : uD 1 cL_law 825 (.iaload) 826 := ⟨by decide +kernel, rfl⟩
theorem dL_law_826 : uD 1 cL_law 826 (.aload_n 0) 827 := ⟨by decide +kernel, rfl⟩
theorem dL_law_827 : uD 2 cL_law 827 (.iload 5) 829 := ⟨by decide +kernel, rfl⟩
theorem dL_law_829 : uD 1 cL_law 829 (.iconst 2) 830 := ⟨by decide +kernel, rfl⟩
theorem dL_law_830 : uD 1 cL_law 830 (.iadd) 831 := ⟨by decide +kernel, rfl⟩
theorem dL_law_831 : uD 1 cL_law 831 (.iaload) 832 := ⟨by decide +kernel, rfl⟩
theorem dL_law_832 : uD 1 cL_law 832 (.aload_n 0) 833 := ⟨by decide +kernel, rfl⟩
theorem dL_law_833 : uD 2 cL_law 833 (.iload 5) 835 := ⟨by decide +kernel, rfl⟩
theorem dL_law_835 : uD 1 cL_law 835 (.iconst 3) 836 := ⟨by decide +kernel, rfl⟩
theorem dL_law_836 : uD 1 cL_law 836 (.iadd) 837 := ⟨by decide +kernel, rfl⟩
theorem dL_law_837 : uD 1 cL_law 837 (.iaload) 838 := ⟨by decide +kernel, rfl⟩
theorem dL_law_838 : uD 3 cL_law 838 (.invokevirtual 166) 841 := ⟨by decide +kernel, rfl⟩
theorem dL_law_841 : uD 2 cL_law 841 (.istore 7) 843 := ⟨by decide +kernel, rfl⟩
theorem dL_law_843 : uD 1 cL_law 843 (.aload_n 2) 844 := ⟨by decide +kernel, rfl⟩
theorem dL_law_844 : uD 3 cL_law 844 (.invokevirtual 125) 847 := ⟨by decide +kernel, rfl⟩
theorem dL_law_847 : uD 2 cL_law 847 (.iload 6) 849 := ⟨by decide +kernel, rfl⟩
theorem dL_law_849 : uJ cL_law 849 (fun o => .if_icmp .eq o) 854 852 := ⟨5, by decide +kernel, by decide, rfl⟩
theorem dL_law_852 : uD 1 cL_law 852 (.iconst 0) 853 := ⟨by decide +kernel, rfl⟩
theorem dL_law_853 : uD 1 cL_law 853 (.ireturn) 854 := ⟨by decide +kernel, rfl⟩
theorem dL_law_854 : uD 2 cL_law 854 (.iload 6) 856 := ⟨by decide +kernel, rfl⟩
theorem dL_law_856 : uJ cL_law 856 (fun o => .ifCond .ne o) 878 859 := ⟨22, by decide +kernel, by decide, rfl⟩
theorem dL_law_859 : uD 1 cL_law 859 (.aload_n 3) 860 := ⟨by decide +kernel, rfl⟩
theorem dL_law_860 : uD 1 cL_law 860 (.iconst 0) 861 := ⟨by decide +kernel, rfl⟩
theorem dL_law_861 : uD 1 cL_law 861 (.laload) 862 := ⟨by decide +kernel, rfl⟩
theorem dL_law_862 : uD 2 cL_law 862 (.iload 7) 864 := ⟨by decide +kernel, rfl⟩
theorem dL_law_864 : uJ cL_law 864 (fun o => .ifCond .eq o) 871 867 := ⟨7, by decide +kernel, by decide, rfl⟩
theorem dL_law_867 : uD 1 cL_law 867 (.lconst 1) 868 := ⟨by decide +kernel, rfl⟩
theorem dL_law_868 : uJ cL_law 868 (fun o => .goto o) 872 871 := ⟨4, by decide +kernel, by decide, rfl⟩
theorem dL_law_871 : uD 1 cL_law 871 (.lconst 0) 872 := ⟨by decide +kernel, rfl⟩
theorem dL_law_872 : uD 1 cL_law 872 (.lcmp) 873 := ⟨by decide +kernel, rfl⟩
theorem dL_law_873 : uJ cL_law 873 (fun o => .ifCond .eq o) 878 876 := ⟨5, by decide +kernel, by decide, rfl⟩
theorem dL_law_876 : uD 1 cL_law 876 (.iconst 0) 877 := ⟨by decide +kernel, rfl⟩
theorem dL_law_877 : uD 1 cL_law 877 (.ireturn) 878 := ⟨by decide +kernel, rfl⟩
theorem dL_law_878 : uJ cL_law 878 (fun o => .goto o) 2116 881 := ⟨1238, by decide +kernel, by decide, rfl⟩
theorem dL_law_881 : uD 1 cL_law 881 (.aload_n 1) 882 := ⟨by decide +kernel, rfl⟩
theorem dL_law_882 : uD 1 cL_law 882 (.aload_n 0) 883 := ⟨by decide +kernel, rfl⟩
theorem dL_law_883 : uD 2 cL_law 883 (.iload 5) 885 := ⟨by decide +kernel, rfl⟩
theorem dL_law_885 : uD 1 cL_law 885 (.iconst 1) 886 := ⟨by decide +kernel, rfl⟩
theorem dL_law_886 : uD 1 cL_law 886 (.iadd) 887 := ⟨by decide +kernel, rfl⟩
theorem dL_law_887 : uD 1 cL_law 887 (.iaload) 888 := ⟨by decide +kernel, rfl⟩
theorem dL_law_888 : uD 1 cL_law 888 (.aload_n 0) 889 := ⟨by decide +kernel, rfl⟩
theorem dL_law_889 : uD 2 cL_law 889 (.iload 5) 891 := ⟨by decide +kernel, rfl⟩
theorem dL_law_891 : uD 1 cL_law 891 (.iconst 2) 892 := ⟨by decide +kernel, rfl⟩
theorem dL_law_892 : uD 1 cL_law 892 (.iadd) 893 := ⟨by decide +kernel, rfl⟩
theorem dL_law_893 : uD 1 cL_law 893 (.iaload) 894 := ⟨by decide +kernel, rfl⟩
theorem dL_law_894 : uD 1 cL_law 894 (.aload_n 0) 895 := ⟨by decide +kernel, rfl⟩
theorem dL_law_895 : uD 2 cL_law 895 (.iload 5) 897 := ⟨by decide +kernel, rfl⟩
theorem dL_law_897 : uD 1 cL_law 897 (.iconst 3) 898 := ⟨by decide +kernel, rfl⟩
theorem dL_law_898 : uD 1 cL_law 898 (.iadd) 899 := ⟨by decide +kernel, rfl⟩
theorem dL_law_899 : uD 1 cL_law 899 (.iaload) 900 := ⟨by decide +kernel, rfl⟩
theorem dL_law_900 : uD 1 cL_law 900 (.aload_n 3) 901 := ⟨by decide +kernel, rfl⟩
theorem dL_law_901 : uD 3 cL_law 901 (.invokestatic 167) 904 := ⟨by decide +kernel, rfl⟩
theorem dL_law_904 : uD 2 cL_law 904 (.istore 6) 906 := ⟨by decide +kernel, rfl⟩
theorem dL_law_906 : uD 1 cL_law 906 (.aload_n 2) 907 := ⟨by decide +kernel, rfl⟩
theorem dL_law_907 : uD 1 cL_law 907 (.aload_n 0) 908 := ⟨by decide +kernel, rfl⟩
theorem dL_law_908 : uD 2 cL_law 908 (.iload 5) 910 := ⟨by decide +kernel, rfl⟩
theorem dL_law_910 : uD 1 cL_law 910 (.iconst 1) 911 := ⟨by decide +kernel, rfl⟩
theorem dL_law_911 : uD 1 cL_law 911 (.iadd) 912 := ⟨by decide +kernel, rfl⟩
theorem dL_law_912 : uD 1 cL_law 912 (.iaload) 913 := ⟨by decide +kernel, rfl⟩
theorem dL_law_913 : uD 1 cL_law 913 (.aload_n 0) 914 := ⟨by decide +kernel, rfl⟩
theorem dL_law_914 : uD 2 cL_law 914 (.iload 5) 916 := ⟨by decide +kernel, rfl⟩
theorem dL_law_916 : uD 1 cL_law 916 (.iconst 2) 917 := ⟨by decide +kernel, rfl⟩
theorem dL_law_917 : uD 1 cL_law 917 (.iadd) 918 := ⟨by decide +kernel, rfl⟩
theorem dL_law_918 : uD 1 cL_law 918 (.iaload) 919 := ⟨by decide +kernel, rfl⟩
theorem dL_law_919 : uD 1 cL_law 919 (.aload_n 0) 920 := ⟨by decide +kernel, rfl⟩
theorem dL_law_920 : uD 2 cL_law 920 (.iload 5) 922 := ⟨by decide +kernel, rfl⟩
theorem dL_law_922 : uD 1 cL_law 922 (.iconst 3) 923 := ⟨by decide +kernel, rfl⟩
theorem dL_law_923 : uD 1 cL_law 923 (.iadd) 924 := ⟨by decide +kernel, rfl⟩
theorem dL_law_924 : uD 1 cL_law 924 (.iaload) 925 := ⟨by decide +kernel, rfl⟩
theorem dL_law_925 : uD 3 cL_law 925 (.invokevirtual 169) 928 := ⟨by decide +kernel, rfl⟩
theorem dL_law_928 : uD 2 cL_law 928 (.istore 7) 930 := ⟨by decide +kernel, rfl⟩
theorem dL_law_930 : uD 1 cL_law 930 (.aload_n 2) 931 := ⟨by decide +kernel, rfl⟩
theorem dL_law_931 : uD 3 cL_law 931 (.invokevirtual 125) 934 := ⟨by decide +kernel, rfl⟩
theorem dL_law_934 : uD 2 cL_law 934 (.iload 6) 936 := ⟨by decide +kernel, rfl⟩
theorem dL_law_936 : uJ cL_law 936 (fun o => .if_icmp .eq o) 941 939 := ⟨5, by decide +kernel, by decide, rfl⟩
theorem dL_law_939 : uD 1 cL_law 939 (.iconst 0) 940 := ⟨by decide +kernel, rfl⟩
theorem dL_law_940 : uD 1 cL_law 940 (.ireturn) 941 := ⟨by decide +kernel, rfl⟩
theorem dL_law_941 : uD 2 cL_law 941 (.iload 6) 943 := ⟨by decide +kernel, rfl⟩
theorem dL_law_943 : uJ cL_law 943 (fun o => .ifCond .ne o) 965 946 := ⟨22, by decide +kernel, by decide, rfl⟩
theorem dL_law_946 : uD 1 cL_law 946 (.aload_n 3) 947 := ⟨by decide +kernel, rfl⟩
theorem dL_law_947 : uD 1 cL_law 947 (.iconst 0) 948 := ⟨by decide +kernel, rfl⟩
theorem dL_law_948 : uD 1 cL_law 948 (.laload) 949 := ⟨by decide +kernel, rfl⟩
theorem dL_law_949 : uD 2 cL_law 949 (.iload 7) 951 := ⟨by decide +kernel, rfl⟩
theorem dL_law_951 : uJ cL_law 951 (fun o => .ifCond .eq o) 958 954 := ⟨7, by decide +kernel, by decide, rfl⟩
theorem dL_law_954 : uD 1 cL_law 954 (.lconst 1) 955 := ⟨by decide +kernel, rfl⟩
theorem dL_law_955 : uJ cL_law 955 (fun o => .goto o) 959 958 := ⟨4, by decide +kernel, by decide, rfl⟩
theorem dL_law_958 : uD 1 cL_law 958 (.lconst 0) 959 := ⟨by decide +kernel, rfl⟩
theorem dL_law_959 : uD 1 cL_law 959 (.lcmp) 960 := ⟨by decide +kernel, rfl⟩
theorem dL_law_960 : uJ cL_law 960 (fun o => .ifCond .eq o) 965 963 := ⟨5, by decide +kernel, by decide, rfl⟩
theorem dL_law_963 : uD 1 cL_law 963 (.iconst 0) 964 := ⟨by decide +kernel, rfl⟩
theorem dL_law_964 : uD 1 cL_law 964 (.ireturn) 965 := ⟨by decide +kernel, rfl⟩
theorem dL_law_965 : uJ cL_law 965 (fun o => .goto o) 2116 968 := ⟨1151, by decide +kernel, by decide, rfl⟩
theorem dL_law_968 : uD 1 cL_law 968 (.aload_n 1) 969 := ⟨by decide +kernel, rfl⟩
theorem dL_law_969 : uD 1 cL_law 969 (.aload_n 0) 970 := ⟨by decide +kernel, rfl⟩
theorem dL_law_970 : uD 2 cL_law 970 (.iload 5) 972 := ⟨by decide +kernel, rfl⟩
theorem dL_law_972 : uD 1 cL_law 972 (.iconst 1) 973 := ⟨by decide +kernel, rfl⟩
theorem dL_law_973 : uD 1 cL_law 973 (.iadd) 974 := ⟨by decide +kernel, rfl⟩
theorem dL_law_974 : uD 1 cL_law 974 (.iaload) 975 := ⟨by decide +kernel, rfl⟩
theorem dL_law_975 : uD 1 cL_law 975 (.aload_n 3) 976 := ⟨by decide +kernel, rfl⟩
theorem dL_law_976 : uD 3 cL_law 976 (.invokestatic 170) 979 := ⟨by decide +kernel, rfl⟩
theorem dL_law_979 : uD 2 cL_law 979 (.istore 6) 981 := ⟨by decide +kernel, rfl⟩
theorem dL_law_981 : uD 1 cL_law 981 (.aload_n 2) 982 := ⟨by decide +kernel, rfl⟩
theorem dL_law_982 : uD 1 cL_law 982 (.aload_n 0) 983 := ⟨by decide +kernel, rfl⟩
theorem dL_law_983 : uD 2 cL_law 983 (.iload 5) 985 := ⟨by decide +kernel, rfl⟩
theorem dL_law_985 : uD 1 cL_law 985 (.iconst 1) 986 := ⟨by decide +kernel, rfl⟩
theorem dL_law_986 : uD 1 cL_law 986 (.iadd) 987 := ⟨by decide +kernel, rfl⟩
theorem dL_law_987 : uD 1 cL_law 987 (.iaload) 988 := ⟨by decide +kernel, rfl⟩
theorem dL_law_988 : uD 3 cL_law 988 (.invokevirtual 172) 991 := ⟨by decide +kernel, rfl⟩
theorem dL_law_991 : uD 2 cL_law 991 (.istore 7) 993 := ⟨by decide +kernel, rfl⟩
theorem dL_law_993 : uD 1 cL_law 993 (.aload_n 2) 994 := ⟨by decide +kernel, rfl⟩
theorem dL_law_994 : uD 3 cL_law 994 (.invokevirtual 125) 997 := ⟨by decide +kernel, rfl⟩
theorem dL_law_997 : uD 2 cL_law 997 (.iload 6) 999 := ⟨by decide +kernel, rfl⟩
theorem dL_law_999 : uJ cL_law 999 (fun o => .if_icmp .eq o) 1004 1002 := ⟨5, by decide +kernel, by decide, rfl⟩
theorem dL_law_1002 : uD 1 cL_law 1002 (.iconst 0) 1003 := ⟨by decide +kernel, rfl⟩
theorem dL_law_1003 : uD 1 cL_law 1003 (.ireturn) 1004 := ⟨by decide +kernel, rfl⟩
theorem dL_law_1004 : uD 2 cL_law 1004 (.iload 6) 1006 := ⟨by decide +kernel, rfl⟩
theorem dL_law_1006 : uJ cL_law 1006 (fun o => .ifCond .ne o) 1021 1009 := ⟨15, by decide +kernel, by decide, rfl⟩
theorem dL_law_1009 : uD 1 cL_law 1009 (.aload_n 3) 1010 := ⟨by decide +kernel, rfl⟩
theorem dL_law_1010 : uD 1 cL_law 1010 (.iconst 0) 1011 := ⟨by decide +kernel, rfl⟩
theorem dL_law_1011 : uD 1 cL_law 1011 (.laload) 1012 := ⟨by decide +kernel, rfl⟩
theorem dL_law_1012 : uD 2 cL_law 1012 (.iload 7) 1014 := ⟨by decide +kernel, rfl⟩
theorem dL_law_1014 : uD 1 cL_law 1014 (.i2l) 1015 := ⟨by decide +kernel, rfl⟩
theorem dL_law_1015 : uD 1 cL_law 1015 (.lcmp) 1016 := ⟨by decide +kernel, rfl⟩
theorem dL_law_1016 : uJ cL_law 1016 (fun o => .ifCond .eq o) 1021 1019 := ⟨5, by decide +kernel, by decide, rfl⟩
theorem dL_law_1019 : uD 1 cL_law 1019 (.iconst 0) 1020 := ⟨by decide +kernel, rfl⟩
theorem dL_law_1020 : uD 1 cL_law 1020 (.ireturn) 1021 := ⟨by decide +kernel, rfl⟩
theorem dL_law_1021 : uJ cL_law 1021 (fun o => .goto o) 2116 1024 := ⟨1095, by decide +kernel, by decide, rfl⟩
theorem dL_law_1024 : uD 1 cL_law 1024 (.aload_n 1) 1025 := ⟨by decide +kernel, rfl⟩
theorem dL_law_1025 : uD 1 cL_law 1025 (.aload_n 0) 1026 := ⟨by decide +kernel, rfl⟩
theorem dL_law_1026 : uD 2 cL_law 1026 (.iload 5) 1028 := ⟨by decide +kernel, rfl⟩
theorem dL_law_1028 : uD 1 cL_law 1028 (.iconst 1) 1029 := ⟨by decide +kernel, rfl⟩
theorem dL_law_1029 : uD 1 cL_law 1029 (.iadd) 1030 := ⟨by decide +kernel, rfl⟩
theorem dL_law_1030 : uD 1 cL_law 1030 (.iaload) 1031 := ⟨by decide +kernel, rfl⟩
theorem dL_law_1031 : uD 1 cL_law 1031 (.aload_n 0) 1032 := ⟨by decide +kernel, rfl⟩
theorem dL_law_1032 : uD 2 cL_law 1032 (.iload 5) 1034 := ⟨by decide +kernel, rfl⟩
theorem dL_law_1034 : uD 1 cL_law 1034 (.iconst 2) 1035 := ⟨by decide +kernel, rfl⟩
theorem dL_law_1035 : uD 1 cL_law 1035 (.iadd) 1036 := ⟨by decide +kernel, rfl⟩
theorem dL_law_1036 : uD 1 cL_law 1036 (.iaload) 1037 := ⟨by decide +kernel, rfl⟩
theorem dL_law_1037 : uJ cL_law 1037 (fun o => .ifCond .eq o) 1044 1040 := ⟨7, by decide +kernel, by decide, rfl⟩
theorem dL_law_1040 : uD 1 cL_law 1040 (.iconst 1) 1041 := ⟨by decide +kernel, rfl⟩
theorem dL_law_1041 : uJ cL_law 1041 (fun o => .goto o) 1045 1044 := ⟨4, by decide +kernel, by decide, rfl⟩
theorem dL_law_1044 : uD 1 cL_law 1044 (.iconst 0) 1045 := ⟨by decide +kernel, rfl⟩
theorem dL_law_1045 : uD 1 cL_law 1045 (.aload_n 3) 1046 := ⟨by decide +kernel, rfl⟩
theorem dL_law_1046 : uD 3 cL_law 1046 (.invokestatic 173) 1049 := ⟨by decide +kernel, rfl⟩
theorem dL_law_1049 : uD 2 cL_law 1049 (.istore 6) 1051 := ⟨by decide +kernel, rfl⟩
theorem dL_law_1051 : uD 1 cL_law 1051 (.aload_n 2) 1052 := ⟨by decide +kernel, rfl⟩
theorem dL_law_1052 : uD 1 cL_law 1052 (.aload_n 0) 1053 := ⟨by decide +kernel, rfl⟩
theorem dL_law_1053 : uD 2 cL_law 1053 (.iload 5) 1055 := ⟨by decide +kernel, rfl⟩
theorem dL_law_1055 : uD 1 cL_law 1055 (.iconst 1) 1056 := ⟨by decide +kernel, rfl⟩
theorem dL_law_1056 : uD 1 cL_law 1056 (.iadd) 1057 := ⟨by decide +kernel, rfl⟩
theorem dL_law_1057 : uD 1 cL_law 1057 (.iaload) 1058 := ⟨by decide +kernel, rfl⟩
theorem dL_law_1058 : uD 1 cL_law 1058 (.aload_n 0) 1059 := ⟨by decide +kernel, rfl⟩
theorem dL_law_1059 : uD 2 cL_law 1059 (.iload 5) 1061 := ⟨by decide +kernel, rfl⟩
theorem dL_law_1061 : uD 1 cL_law 1061 (.iconst 2) 1062 := ⟨by decide +kernel, rfl⟩
theorem dL_law_1062 : uD 1 cL_law 1062 (.iadd) 1063 := ⟨by decide +kernel, rfl⟩
theorem dL_law_1063 : uD 1 cL_law 1063 (.iaload) 1064 := ⟨by decide +kernel, rfl⟩
theorem dL_law_1064 : uJ cL_law 1064 (fun o => .ifCond .eq o) 1071 1067 := ⟨7, by decide +kernel, by decide, rfl⟩
theorem dL_law_1067 : uD 1 cL_law 1067 (.iconst 1) 1068 := ⟨by decide +kernel, rfl⟩
theorem dL_law_1068 : uJ cL_law 1068 (fun o => .goto o) 1072 1071 := ⟨4, by decide +kernel, by decide, rfl⟩
theorem dL_law_1071 : uD 1 cL_law 1071 (.iconst 0) 1072 := ⟨by decide +kernel, rfl⟩
theorem dL_law_1072 : uD 3 cL_law 1072 (.invokevirtual 176) 1075 := ⟨by decide +kernel, rfl⟩
theorem dL_law_1075 : uD 2 cL_law 1075 (.istore 7) 1077 := ⟨by decide +kernel, rfl⟩
theorem dL_law_1077 : uD 1 cL_law 1077 (.aload_n 2) 1078 := ⟨by decide +kernel, rfl⟩
theorem dL_law_1078 : uD 3 cL_law 1078 (.invokevirtual 125) 1081 := ⟨by decide +kernel, rfl⟩
theorem dL_law_1081 : uD 2 cL_law 1081 (.iload 6) 1083 := ⟨by decide +kernel, rfl⟩
theorem dL_law_1083 : uJ cL_law 1083 (fun o => .if_icmp .eq o) 1088 1086 := ⟨5, by decide +kernel, by decide, rfl⟩
theorem dL_law_1086 : uD 1 cL_law 1086 (.iconst 0) 1087 := ⟨by decide +kernel, rfl⟩
theorem dL_law_1087 : uD 1 cL_law 1087 (.ireturn) 1088 := ⟨by decide +kernel, rfl⟩
theorem dL_law_1088 : uD 2 cL_law 1088 (.iload 6) 1090 := ⟨by decide +kernel, rfl⟩
theorem dL_law_1090 : uJ cL_law 1090 (fun o => .ifCond .ne o) 1112 1093 := ⟨22, by decide +kernel, by decide, rfl⟩
theorem dL_law_1093 : uD 1 cL_law 1093 (.aload_n 3) 1094 := ⟨by decide +kernel, rfl⟩
theorem dL_law_1094 : uD 1 cL_law 1094 (.iconst 0) 1095 := ⟨by decide +kernel, rfl⟩
theorem dL_law_1095 : uD 1 cL_law 1095 (.laload) 1096 := ⟨by decide +kernel, rfl⟩
theorem dL_law_1096 : uD 2 cL_law 1096 (.iload 7) 1098 := ⟨by decide +kernel, rfl⟩
theorem dL_law_1098 : uJ cL_law 1098 (fun o => .ifCond .eq o) 1105 1101 := ⟨7, by decide +kernel, by decide, rfl⟩
theorem dL_law_1101 : uD 1 cL_law 1101 (.lconst 1) 1102 := ⟨by decide +kernel, rfl⟩
theorem dL_law_1102 : uJ cL_law 1102 (fun o => .goto o) 1106 1105 := ⟨4, by decide +kernel, by decide, rfl⟩
theorem dL_law_1105 : uD 1 cL_law 1105 (.lconst 0) 1106 := ⟨by decide +kernel, rfl⟩
theorem dL_law_1106 : uD 1 cL_law 1106 (.lcmp) 1107 := ⟨by decide +kernel, rfl⟩
theorem dL_law_1107 : uJ cL_law 1107 (fun o => .ifCond .eq o) 1112 1110 := ⟨5, by decide +kernel, by decide, rfl⟩
theorem dL_law_1110 : uD 1 cL_law 1110 (.iconst 0) 1111 := ⟨by decide +kernel, rfl⟩
theorem dL_law_1111 : uD 1 cL_law 1111 (.ireturn) 1112 := ⟨by decide +kernel, rfl⟩
theorem dL_law_1112 : uJ cL_law 1112 (fun o => .goto o) 2116 1115 := ⟨1004, by decide +kernel, by decide, rfl⟩
theorem dL_law_1115 : uD 1 cL_law 1115 (.aload_n 1) 1116 := ⟨by decide +kernel, rfl⟩
theorem dL_law_1116 : uD 1 cL_law 1116 (.aload_n 0) 1117 := ⟨by decide +kernel, rfl⟩
theorem dL_law_1117 : uD 2 cL_law 1117 (.iload 5) 1119 := ⟨by decide +kernel, rfl⟩
theorem dL_law_1119 : uD 1 cL_law 1119 (.iconst 1) 1120 := ⟨by decide +kernel, rfl⟩
theorem dL_law_1120 : uD 1 cL_law 1120 (.iadd) 1121 := ⟨by decide +kernel, rfl⟩
theorem dL_law_1121 : uD 1 cL_law 1121 (.iaload) 1122 := ⟨by decide +kernel, rfl⟩
theorem dL_law_1122 : uD 1 cL_law 1122 (.aload_n 0) 1123 := ⟨by decide +kernel, rfl⟩
theorem dL_law_1123 : uD 2 cL_law 1123 (.iload 5) 1125 := ⟨by decide +kernel, rfl⟩
theorem dL_law_1125 : uD 1 cL_law 1125 (.iconst 2) 1126 := ⟨by decide +kernel, rfl⟩
theorem dL_law_1126 : uD 1 cL_law 1126 (.iadd) 1127 := ⟨by decide +kernel, rfl⟩
theorem dL_law_1127 : uD 1 cL_law 1127 (.iaload) 1128 := ⟨by decide +kernel, rfl⟩
theorem dL_law_1128 : uD 1 cL_law 1128 (.aload_n 3) 1129 := ⟨by decide +kernel, rfl⟩
theorem dL_law_1129 : uD 3 cL_law 1129 (.invokestatic 177) 1132 := ⟨by decide +kernel, rfl⟩
theorem dL_law_1132 : uD 2 cL_law 1132 (.istore 6) 1134 := ⟨by decide +kernel, rfl⟩
theorem dL_law_1134 : uD 1 cL_law 1134 (.aload_n 2) 1135 := ⟨by decide +kernel, rfl⟩
theorem dL_law_1135 : uD 1 cL_law 1135 (.aload_n 0) 1136 := ⟨by decide +kernel, rfl⟩
theorem dL_law_1136 : uD 2 cL_law 1136 (.iload 5) 1138 := ⟨by decide +kernel, rfl⟩
theorem dL_law_1138 : uD 1 cL_law 1138 (.iconst 1) 1139 := ⟨by decide +kernel, rfl⟩
theorem dL_law_1139 : uD 1 cL_law 1139 (.iadd) 1140 := ⟨by decide +kernel, rfl⟩
theorem dL_law_1140 : uD 1 cL_law 1140 (.iaload) 1141 := ⟨by decide +kernel, rfl⟩
theorem dL_law_1141 : uD 1 cL_law 1141 (.aload_n 0) 1142 := ⟨by decide +kernel, rfl⟩
theorem dL_law_1142 : uD 2 cL_law 1142 (.iload 5) 1144 := ⟨by decide +kernel, rfl⟩
theorem dL_law_1144 : uD 1 cL_law 1144 (.iconst 2) 1145 := ⟨by decide +kernel, rfl⟩
theorem dL_law_1145 : uD 1 cL_law 1145 (.iadd) 1146 := ⟨by decide +kernel, rfl⟩
theorem dL_law_1146 : uD 1 cL_law 1146 (.iaload) 1147 := ⟨by decide +kernel, rfl⟩
theorem dL_law_1147 : uD 3 cL_law 1147 (.invokevirtual 179) 1150 := ⟨by decide +kernel, rfl⟩
theorem dL_law_1150 : uD 2 cL_law 1150 (.istore 7) 1152 := ⟨by decide +kernel, rfl⟩
theorem dL_law_1152 : uD 1 cL_law 1152 (.aload_n 2) 1153 := ⟨by decide +kernel, rfl⟩
theorem dL_law_1153 : uD 3 cL_law 1153 (.invokevirtual 125) 1156 := ⟨by decide +kernel, rfl⟩
theorem dL_law_1156 : uD 2 cL_law 1156 (.iload 6) 1158 := ⟨by decide +kernel, rfl⟩
theorem dL_law_1158 : uJ cL_law 1158 (fun o => .if_icmp .eq o) 1163 1161 := ⟨5, by decide +kernel, by decide, rfl⟩
theorem dL_law_1161 : uD 1 cL_law 1161 (.iconst 0) 1162 := ⟨by decide +kernel, rfl⟩
theorem dL_law_1162 : uD 1 cL_law 1162 (.ireturn) 1163 := ⟨by decide +kernel, rfl⟩
theorem dL_law_1163 : uD 2 cL_law 1163 (.iload 6) 1165 := ⟨by decide +kernel, rfl⟩
theorem dL_law_1165 : uJ cL_law 1165 (fun o => .ifCond .ne o) 1180 1168 := ⟨15, by decide +kernel, by decide, rfl⟩
theorem dL_law_1168 : uD 1 cL_law 1168 (.aload_n 3) 1169 := ⟨by decide +kernel, rfl⟩
theorem dL_law_1169 : uD 1 cL_law 1169 (.iconst 0) 1170 := ⟨by decide +kernel, rfl⟩
theorem dL_law_1170 : uD 1 cL_law 1170 (.laload) 1171 := ⟨by decide +kernel, rfl⟩
theorem dL_law_1171 : uD 2 cL_law 1171 (.iload 7) 1173 := ⟨by decide +kernel, rfl⟩
theorem dL_law_1173 : uD 1 cL_law 1173 (.i2l) 1174 := ⟨by decide +kernel, rfl⟩
theorem dL_law_1174 : uD 1 cL_law 1174 (.lcmp) 1175 := ⟨by decide +kernel, rfl⟩
theorem dL_law_1175 : uJ cL_law 1175 (fun o => .ifCond .eq o) 1180 1178 := ⟨5, by decide +kernel, by decide, rfl⟩
theorem dL_law_1178 : uD 1 cL_law 1178 (.iconst 0) 1179 := ⟨by decide +kernel, rfl⟩
theorem dL_law_1179 : uD 1 cL_law 1179 (.ireturn) 1180 := ⟨by decide +kernel, rfl⟩
theorem dL_law_1180 : uJ cL_law 1180 (fun o => .goto o) 2116 1183 := ⟨936, by decide +kernel, by decide, rfl⟩
theorem dL_law_1183 : uD 1 cL_law 1183 (.aload_n 1) 1184 := ⟨by decide +kernel, rfl⟩
theorem dL_law_1184 : uD 1 cL_law 1184 (.aload_n 0) 1185 := ⟨by decide +kernel, rfl⟩
theorem dL_law_1185 : uD 2 cL_law 1185 (.iload 5) 1187 := ⟨by decide +kernel, rfl⟩
theorem dL_law_1187 : uD 1 cL_law 1187 (.iconst 1) 1188 := ⟨by decide +kernel, rfl⟩
theorem dL_law_1188 : uD 1 cL_law 1188 (.iadd) 1189 := ⟨by decide +kernel, rfl⟩
theorem dL_law_1189 : uD 1 cL_law 1189 (.iaload) 1190 := ⟨by decide +kernel, rfl⟩
theorem dL_law_1190 : uJ cL_law 1190 (fun o => .ifCond .eq o) 1197 1193 := ⟨7, by decide +kernel, by decide, rfl⟩
theorem dL_law_1193 : uD 1 cL_law 1193 (.iconst 1) 1194 := ⟨by decide +kernel, rfl⟩
theorem dL_law_1194 : uJ cL_law 1194 (fun o => .goto o) 1198 1197 := ⟨4, by decide +kernel, by decide, rfl⟩
theorem dL_law_1197 : uD 1 cL_law 1197 (.iconst 0) 1198 := ⟨by decide +kernel, rfl⟩
theorem dL_law_1198 : uD 3 cL_law 1198 (.invokevirtual 180) 1201 := ⟨by decide +kernel, rfl⟩
theorem dL_law_1201 : uD 1 cL_law 1201 (.aload_n 2) 1202 := ⟨by decide +kernel, rfl⟩
theorem dL_law_1202 : uD 1 cL_law 1202 (.aload_n 0) 1203 := ⟨by decide +kernel, rfl⟩
theorem dL_law_1203 : uD 2 cL_law 1203 (.iload 5) 1205 := ⟨by decide +kernel, rfl⟩
theorem dL_law_1205 : uD 1 cL_law 1205 (.iconst 1) 1206 := ⟨by decide +kernel, rfl⟩
theorem dL_law_1206 : uD 1 cL_law 1206 (.iadd) 1207 := ⟨by decide +kernel, rfl⟩
theorem dL_law_1207 : uD 1 cL_law 1207 (.iaload) 1208 := ⟨by decide +kernel, rfl⟩
theorem dL_law_1208 : uJ cL_law 1208 (fun o => .ifCond .eq o) 1215 1211 := ⟨7, by decide +kernel, by decide, rfl⟩
theorem dL_law_1211 : uD 1 cL_law 1211 (.iconst 1) 1212 := ⟨by decide +kernel, rfl⟩
theorem dL_law_1212 : uJ cL_law 1212 (fun o => .goto o) 1216 1215 := ⟨4, by decide +kernel, by decide, rfl⟩
theorem dL_law_1215 : uD 1 cL_law 1215 (.iconst 0) 1216 := ⟨by decide +kernel, rfl⟩
theorem dL_law_1216 : uD 3 cL_law 1216 (.invokevirtual 184) 1219 := ⟨by decide +kernel, rfl⟩
theorem dL_law_1219 : uJ cL_law 1219 (fun o => .if_icmp .eq o) 2116 1222 := ⟨897, by decide +kernel, by decide, rfl⟩
theorem dL_law_1222 : uD 1 cL_law 1222 (.iconst 0) 1223 := ⟨by decide +kernel, rfl⟩
theorem dL_law_1223 : uD 1 cL_law 1223 (.ireturn) 1224 := ⟨by decide +kernel, rfl⟩
theorem dL_law_1224 : uD 1 cL_law 1224 (.aload_n 1) 1225 := ⟨by decide +kernel, rfl⟩
theorem dL_law_1225 : uD 1 cL_law 1225 (.aload_n 0) 1226 := ⟨by decide +kernel, rfl⟩
theorem dL_law_1226 : uD 2 cL_law 1226 (.iload 5) 1228 := ⟨by decide +kernel, rfl⟩
theorem dL_law_1228 : uD 1 cL_law 1228 (.iconst 1) 1229 := ⟨by decide +kernel, rfl⟩
theorem dL_law_1229 : uD 1 cL_law 1229 (.iadd) 1230 := ⟨by decide +kernel, rfl⟩
theorem dL_law_1230 : uD 1 cL_law 1230 (.iaload) 1231 := ⟨by decide +kernel, rfl⟩
theorem dL_law_1231 : uD 1 cL_law 1231 (.aload_n 3) 1232 := ⟨by decide +kernel, rfl⟩
theorem dL_law_1232 : uD 3 cL_law 1232 (.invokestatic 185) 1235 := ⟨by decide +kernel, rfl⟩
theorem dL_law_1235 : uD 2 cL_law 1235 (.istore 6) 1237 := ⟨by decide +kernel, rfl⟩
theorem dL_law_1237 : uD 1 cL_law 1237 (.aload_n 2) 1238 := ⟨by decide +kernel, rfl⟩
theorem dL_law_1238 : uD 1 cL_law 1238 (.aload_n 0) 1239 := ⟨by decide +kernel, rfl⟩
theorem dL_law_1239 : uD 2 cL_law 1239 (.iload 5) 1241 := ⟨by decide +kernel, rfl⟩
theorem dL_law_1241 : uD 1 cL_law 1241 (.iconst 1) 1242 := ⟨by decide +kernel, rfl⟩
theorem dL_law_1242 : uD 1 cL_law 1242 (.iadd) 1243 := ⟨by decide +kernel, rfl⟩
theorem dL_law_1243 : uD 1 cL_law 1243 (.iaload) 1244 := ⟨by decide +kernel, rfl⟩
theorem dL_law_1244 : uD 3 cL_law 1244 (.invokevirtual 187) 1247 := ⟨by decide +kernel, rfl⟩
theorem dL_law_1247 : uD 2 cL_law 1247 (.istore 7) 1249 := ⟨by decide +kernel, rfl⟩
theorem dL_law_1249 : uD 1 cL_law 1249 (.aload_n 2) 1250 := ⟨by decide +kernel, rfl⟩
theorem dL_law_1250 : uD 3 cL_law 1250 (.invokevirtual 125) 1253 := ⟨by decide +kernel, rfl⟩
theorem dL_law_1253 : uD 2 cL_law 1253 (.iload 6) 1255 := ⟨by decide +kernel, rfl⟩
theorem dL_law_1255 : uJ cL_law 1255 (fun o => .if_icmp .eq o) 1260 1258 := ⟨5, by decide +kernel, by decide, rfl⟩
theorem dL_law_1258 : uD 1 cL_law 1258 (.iconst 0) 1259 := ⟨by decide +kernel, rfl⟩
theorem dL_law_1259 : uD 1 cL_law 1259 (.ireturn) 1260 := ⟨by decide +kernel, rfl⟩
theorem dL_law_1260 : uD 2 cL_law 1260 (.iload 6) 1262 := ⟨by decide +kernel, rfl⟩
theorem dL_law_1262 : uJ cL_law 1262 (fun o => .ifCond .ne o) 1277 1265 := ⟨15, by decide +kernel, by decide, rfl⟩
theorem dL_law_1265 : uD 1 cL_law 1265 (.aload_n 3) 1266 := ⟨by decide +kernel, rfl⟩
theorem dL_law_1266 : uD 1 cL_law 1266 (.iconst 0) 1267 := ⟨by decide +kernel, rfl⟩
theorem dL_law_1267 : uD 1 cL_law 1267 (.laload) 1268 := ⟨by decide +kernel, rfl⟩
theorem dL_law_1268 : uD 2 cL_law 1268 (.iload 7) 1270 := ⟨by decide +kernel, rfl⟩
theorem dL_law_1270 : uD 1 cL_law 1270 (.i2l) 1271 := ⟨by decide +kernel, rfl⟩
theorem dL_law_1271 : uD 1 cL_law 1271 (.lcmp) 1272 := ⟨by decide +kernel, rfl⟩
theorem dL_law_1272 : uJ cL_law 1272 (fun o => .ifCond .eq o) 1277 1275 := ⟨5, by decide +kernel, by decide, rfl⟩
theorem dL_law_1275 : uD 1 cL_law 1275 (.iconst 0) 1276 := ⟨by decide +kernel, rfl⟩
theorem dL_law_1276 : uD 1 cL_law 1276 (.ireturn) 1277 := ⟨by decide +kernel, rfl⟩
theorem dL_law_1277 : uJ cL_law 1277 (fun o => .goto o) 2116 1280 := ⟨839, by decide +kernel, by decide, rfl⟩
theorem dL_law_1280 : uD 1 cL_law 1280 (.aload_n 1) 1281 := ⟨by decide +kernel, rfl⟩
theorem dL_law_1281 : uD 1 cL_law 1281 (.aload_n 3) 1282 := ⟨by decide +kernel, rfl⟩
theorem dL_law_1282 : uD 3 cL_law 1282 (.invokestatic 188) 1285 := ⟨by decide +kernel, rfl⟩
theorem dL_law_1285 : uD 2 cL_law 1285 (.istore 6) 1287 := ⟨by decide +kernel, rfl⟩
theorem dL_law_1287 : uD 1 cL_law 1287 (.aload_n 2) 1288 := ⟨by decide +kernel, rfl⟩
theorem dL_law_1288 : uD 3 cL_law 1288 (.invokevirtual 190) 1291 := ⟨by decide +kernel, rfl⟩
theorem dL_law_1291 : uD 2 cL_law 1291 (.istore 7) 1293 := ⟨by decide +kernel, rfl⟩
theorem dL_law_1293 : uD 1 cL_law 1293 (.aload_n 2) 1294 := ⟨by decide +kernel, rfl⟩
theorem dL_law_1294 : uD 3 cL_law 1294 (.invokevirtual 125) 1297 := ⟨by decide +kernel, rfl⟩
theorem dL_law_1297 : uD 2 cL_law 1297 (.iload 6) 1299 := ⟨by decide +kernel, rfl⟩
theorem dL_law_1299 : uJ cL_law 1299 (fun o => .if_icmp .eq o) 1304 1302 := ⟨5, by decide +kernel, by decide, rfl⟩
theorem dL_law_1302 : uD 1 cL_law 1302 (.iconst 0) 1303 := ⟨by decide +kernel, rfl⟩
theorem dL_law_1303 : uD 1 cL_law 1303 (.ireturn) 1304 := ⟨by decide +kernel, rfl⟩
theorem dL_law_1304 : uD 2 cL_law 1304 (.iload 6) 1306 := ⟨by decide +kernel, rfl⟩
theorem dL_law_1306 : uJ cL_law 1306 (fun o => .ifCond .ne o) 1321 1309 := ⟨15, by decide +kernel, by decide, rfl⟩
theorem dL_law_1309 : uD 1 cL_law 1309 (.aload_n 3) 1310 := ⟨by decide +kernel, rfl⟩
theorem dL_law_1310 : uD 1 cL_law 1310 (.iconst 0) 1311 := ⟨by decide +kernel, rfl⟩
theorem dL_law_1311 : uD 1 cL_law 1311 (.laload) 1312 := ⟨by decide +kernel, rfl⟩
theorem dL_law_1312 : uD 2 cL_law 1312 (.iload 7) 1314 := ⟨by decide +kernel, rfl⟩
theorem dL_law_1314 : uD 1 cL_law 1314 (.i2l) 1315 := ⟨by decide +kernel, rfl⟩
theorem dL_law_1315 : uD 1 cL_law 1315 (.lcmp) 1316 := ⟨by decide +kernel, rfl⟩
theorem dL_law_1316 : uJ cL_law 1316 (fun o => .ifCond .eq o) 1321 1319 := ⟨5, by decide +kernel, by decide, rfl⟩
theorem dL_law_1319 : uD 1 cL_law 1319 (.iconst 0) 1320 := ⟨by decide +kernel, rfl⟩
theorem dL_law_1320 : uD 1 cL_law 1320 (.ireturn) 1321 := ⟨by decide +kernel, rfl⟩
theorem dL_law_1321 : uJ cL_law 1321 (fun o => .goto o) 2116 1324 := ⟨795, by decide +kernel, by decide, rfl⟩
theorem dL_law_1324 : uD 1 cL_law 1324 (.aload_n 1) 1325 := ⟨by decide +kernel, rfl⟩
theorem dL_law_1325 : uD 1 cL_law 1325 (.aload_n 0) 1326 := ⟨by decide +kernel, rfl⟩
theorem dL_law_1326 : uD 2 cL_law 1326 (.iload 5) 1328 := ⟨by decide +kernel, rfl⟩
theorem dL_law_1328 : uD 1 cL_law 1328 (.iconst 1) 1329 := ⟨by decide +kernel, rfl⟩
theorem dL_law_1329 : uD 1 cL_law 1329 (.iadd) 1330 := ⟨by decide +kernel, rfl⟩
theorem dL_law_1330 : uD 1 cL_law 1330 (.iaload) 1331 := ⟨by decide +kernel, rfl⟩
theorem dL_law_1331 : uD 1 cL_law 1331 (.aload_n 3) 1332 := ⟨by decide +kernel, rfl⟩
theorem dL_law_1332 : uD 3 cL_law 1332 (.invokestatic 191) 1335 := ⟨by decide +kernel, rfl⟩
theorem dL_law_1335 : uD 2 cL_law 1335 (.istore 6) 1337 := ⟨by decide +kernel, rfl⟩
theorem dL_law_1337 : uD 1 cL_law 1337 (.aload_n 2) 1338 := ⟨by decide +kernel, rfl⟩
theorem dL_law_1338 : uD 1 cL_law 1338 (.aload_n 0) 1339 := ⟨by decide +kernel, rfl⟩
theorem dL_law_1339 : uD 2 cL_law 1339 (.iload 5) 1341 := ⟨by decide +kernel, rfl⟩
theorem dL_law_1341 : uD 1 cL_law 1341 (.iconst 1) 1342 := ⟨by decide +kernel, rfl⟩
theorem dL_law_1342 : uD 1 cL_law 1342 (.iadd) 1343 := ⟨by decide +kernel, rfl⟩
theorem dL_law_1343 : uD 1 cL_law 1343 (.iaload) 1344 := ⟨by decide +kernel, rfl⟩
theorem dL_law_1344 : uD 3 cL_law 1344 (.invokevirtual 193) 1347 := ⟨by decide +kernel, rfl⟩
theorem dL_law_1347 : uD 2 cL_law 1347 (.istore 7) 1349 := ⟨by decide +kernel, rfl⟩
theorem dL_law_1349 : uD 1 cL_law 1349 (.aload_n 2) 1350 := ⟨by decide +kernel, rfl⟩
theorem dL_law_1350 : uD 3 cL_law 1350 (.invokevirtual 125) 1353 := ⟨by decide +kernel, rfl⟩
theorem dL_law_1353 : uD 2 cL_law 1353 (.iload 6) 1355 := ⟨by decide +kernel, rfl⟩
theorem dL_law_1355 : uJ cL_law 1355 (fun o => .if_icmp .eq o) 1360 1358 := ⟨5, by decide +kernel, by decide, rfl⟩
theorem dL_law_1358 : uD 1 cL_law 1358 (.iconst 0) 1359 := ⟨by decide +kernel, rfl⟩
theorem dL_law_1359 : uD 1 cL_law 1359 (.ireturn) 1360 := ⟨by decide +kernel, rfl⟩
theorem dL_law_1360 : uD 2 cL_law 1360 (.iload 6) 1362 := ⟨by decide +kernel, rfl⟩
theorem dL_law_1362 : uJ cL_law 1362 (fun o => .ifCond .ne o) 1377 1365 := ⟨15, by decide +kernel, by decide, rfl⟩
theorem dL_law_1365 : uD 1 cL_law 1365 (.aload_n 3) 1366 := ⟨by decide +kernel, rfl⟩
theorem dL_law_1366 : uD 1 cL_law 1366 (.iconst 0) 1367 := ⟨by decide +kernel, rfl⟩
theorem dL_law_1367 : uD 1 cL_law 1367 (.laload) 1368 := ⟨by decide +kernel, rfl⟩
theorem dL_law_1368 : uD 2 cL_law 1368 (.iload 7) 1370 := ⟨by decide +kernel, rfl⟩
theorem dL_law_1370 : uD 1 cL_law 1370 (.i2l) 1371 := ⟨by decide +kernel, rfl⟩
theorem dL_law_1371 : uD 1 cL_law 1371 (.lcmp) 1372 := ⟨by decide +kernel, rfl⟩
theorem dL_law_1372 : uJ cL_law 1372 (fun o => .ifCond .eq o) 1377 1375 := ⟨5, by decide +kernel, by decide, rfl⟩
theorem dL_law_1375 : uD 1 cL_law 1375 (.iconst 0) 1376 := ⟨by decide +kernel, rfl⟩
theorem dL_law_1376 : uD 1 cL_law 1376 (.ireturn) 1377 := ⟨by decide +kernel, rfl⟩
theorem dL_law_1377 : uJ cL_law 1377 (fun o => .goto o) 2116 1380 := ⟨739, by decide +kernel, by decide, rfl⟩
theorem dL_law_1380 : uD 1 cL_law 1380 (.aload_n 1) 1381 := ⟨by decide +kernel, rfl⟩
theorem dL_law_1381 : uD 3 cL_law 1381 (.invokevirtual 194) 1384 := ⟨by decide +kernel, rfl⟩
theorem dL_law_1384 : uD 1 cL_law 1384 (.aload_n 2) 1385 := ⟨by decide +kernel, rfl⟩
theorem dL_law_1385 : uD 3 cL_law 1385 (.invokevirtual 197) 1388 := ⟨by decide +kernel, rfl⟩
theorem dL_law_1388 : uJ cL_law 1388 (fun o => .if_icmp .eq o) 2116 1391 := ⟨728, by decide +kernel, by decide, rfl⟩
theorem dL_law_1391 : uD 1 cL_law 1391 (.iconst 0) 1392 := ⟨by decide +kernel, rfl⟩
theorem dL_law_1392 : uD 1 cL_law 1392 (.ireturn) 1393 := ⟨by decide +kernel, rfl⟩
theorem dL_law_1393 : uD 1 cL_law 1393 (.aload_n 1) 1394 := ⟨by decide +kernel, rfl⟩
theorem dL_law_1394 : uD 1 cL_law 1394 (.aload_n 0) 1395 := ⟨by decide +kernel, rfl⟩
theorem dL_law_1395 : uD 2 cL_law 1395 (.iload 5) 1397 := ⟨by decide +kernel, rfl⟩
theorem dL_law_1397 : uD 1 cL_law 1397 (.iconst 1) 1398 := ⟨by decide +kernel, rfl⟩
theorem dL_law_1398 : uD 1 cL_law 1398 (.iadd) 1399 := ⟨by decide +kernel, rfl⟩
theorem dL_law_1399 : uD 1 cL_law 1399 (.iaload) 1400 := ⟨by decide +kernel, rfl⟩
theorem dL_law_1400 : uD 1 cL_law 1400 (.aload_n 3) 1401 := ⟨by decide +kernel, rfl⟩
theorem dL_law_1401 : uD 3 cL_law 1401 (.invokestatic 198) 1404 := ⟨by decide +kernel, rfl⟩
theorem dL_law_1404 : uD 2 cL_law 1404 (.istore 6) 1406 := ⟨by decide +kernel, rfl⟩
theorem dL_law_1406 : uD 1 cL_law 1406 (.aload_n 2) 1407 := ⟨by decide +kernel, rfl⟩
theorem dL_law_1407 : uD 1 cL_law 1407 (.aload_n 0) 1408 := ⟨by decide +kernel, rfl⟩
theorem dL_law_1408 : uD 2 cL_law 1408 (.iload 5) 1410 := ⟨by decide +kernel, rfl⟩
theorem dL_law_1410 : uD 1 cL_law 1410 (.iconst 1) 1411 := ⟨by decide +kernel, rfl⟩
theorem dL_law_1411 : uD 1 cL_law 1411 (.iadd) 1412 := ⟨by decide +kernel, rfl⟩
theorem dL_law_1412 : uD 1 cL_law 1412 (.iaload) 1413 := ⟨by decide +kernel, rfl⟩
theorem dL_law_1413 : uD 3 cL_law 1413 (.invokevirtual 200) 1416 := ⟨by decide +kernel, rfl⟩
theorem dL_law_1416 : uD 2 cL_law 1416 (.istore 7) 1418 := ⟨by decide +kernel, rfl⟩
theorem dL_law_1418 : uD 1 cL_law 1418 (.aload_n 2) 1419 := ⟨by decide +kernel, rfl⟩
theorem dL_law_1419 : uD 3 cL_law 1419 (.invokevirtual 125) 1422 := ⟨by decide +kernel, rfl⟩
theorem dL_law_1422 : uD 2 cL_law 1422 (.iload 6) 1424 := ⟨by decide +kernel, rfl⟩
theorem dL_law_1424 : uJ cL_law 1424 (fun o => .if_icmp .eq o) 1429 1427 := ⟨5, by decide +kernel, by decide, rfl⟩
theorem dL_law_1427 : uD 1 cL_law 1427 (.iconst 0) 1428 := ⟨by decide +kernel, rfl⟩
theorem dL_law_1428 : uD 1 cL_law 1428 (.ireturn) 1429 := ⟨by decide +kernel, rfl⟩
theorem dL_law_1429 : uD 2 cL_law 1429 (.iload 6) 1431 := ⟨by decide +kernel, rfl⟩
theorem dL_law_1431 : uJ cL_law 1431 (fun o => .ifCond .ne o) 1446 1434 := ⟨15, by decide +kernel, by decide, rfl⟩
theorem dL_law_1434 : uD 1 cL_law 1434 (.aload_n 3) 1435 := ⟨by decide +kernel, rfl⟩
theorem dL_law_1435 : uD 1 cL_law 1435 (.iconst 0) 1436 := ⟨by decide +kernel, rfl⟩
theorem dL_law_1436 : uD 1 cL_law 1436 (.laload) 1437 := ⟨by decide +kernel, rfl⟩
theorem dL_law_1437 : uD 2 cL_law 1437 (.iload 7) 1439 := ⟨by decide +kernel, rfl⟩
theorem dL_law_1439 : uD 1 cL_law 1439 (.i2l) 1440 := ⟨by decide +kernel, rfl⟩
theorem dL_law_1440 : uD 1 cL_law 1440 (.lcmp) 1441 := ⟨by decide +kernel, rfl⟩
theorem dL_law_1441 : uJ cL_law 1441 (fun o => .ifCond .eq o) 1446 1444 := ⟨5, by decide +kernel, by decide, rfl⟩
theorem dL_law_1444 : uD 1 cL_law 1444 (.iconst 0) 1445 := ⟨by decide +kernel, rfl⟩
theorem dL_law_1445 : uD 1 cL_law 1445 (.ireturn) 1446 := ⟨by decide +kernel, rfl⟩
theorem dL_law_1446 : uJ cL_law 1446 (fun o => .goto o) 2116 1449 := ⟨670, by decide +kernel, by decide, rfl⟩
theorem dL_law_1449 : uD 1 cL_law 1449 (.aload_n 1) 1450 := ⟨by decide +kernel, rfl⟩
theorem dL_law_1450 : uD 1 cL_law 1450 (.aload_n 0) 1451 := ⟨by decide +kernel, rfl⟩
theorem dL_law_1451 : uD 2 cL_law 1451 (.iload 5) 1453 := ⟨by decide +kernel, rfl⟩
theorem dL_law_1453 : uD 1 cL_law 1453 (.iconst 1) 1454 := ⟨by decide +kernel, rfl⟩
theorem dL_law_1454 : uD 1 cL_law 1454 (.iadd) 1455 := ⟨by decide +kernel, rfl⟩
theorem dL_law_1455 : uD 1 cL_law 1455 (.iaload) 1456 := ⟨by decide +kernel, rfl⟩
theorem dL_law_1456 : uD 1 cL_law 1456 (.aload_n 3) 1457 := ⟨by decide +kernel, rfl⟩
theorem dL_law_1457 : uD 3 cL_law 1457 (.invokestatic 201) 1460 := ⟨by decide +kernel, rfl⟩
theorem dL_law_1460 : uD 2 cL_law 1460 (.istore 6) 1462 := ⟨by decide +kernel, rfl⟩
theorem dL_law_1462 : uD 1 cL_law 1462 (.aload_n 2) 1463 := ⟨by decide +kernel, rfl⟩
theorem dL_law_1463 : uD 1 cL_law 1463 (.aload_n 0) 1464 := ⟨by decide +kernel, rfl⟩
theorem dL_law_1464 : uD 2 cL_law 1464 (.iload 5) 1466 := ⟨by decide +kernel, rfl⟩
theorem dL_law_1466 : uD 1 cL_law 1466 (.iconst 1) 1467 := ⟨by decide +kernel, rfl⟩
theorem dL_law_1467 : uD 1 cL_law 1467 (.iadd) 1468 := ⟨by decide +kernel, rfl⟩
theorem dL_law_1468 : uD 1 cL_law 1468 (.iaload) 1469 := ⟨by decide +kernel, rfl⟩
theorem dL_law_1469 : uD 3 cL_law 1469 (.invokevirtual 203) 1472 := ⟨by decide +kernel, rfl⟩
theorem dL_law_1472 : uD 2 cL_law 1472 (.istore 7) 1474 := ⟨by decide +kernel, rfl⟩
theorem dL_law_1474 : uD 1 cL_law 1474 (.aload_n 2) 1475 := ⟨by decide +kernel, rfl⟩
theorem dL_law_1475 : uD 3 cL_law 1475 (.invokevirtual 125) 1478 := ⟨by decide +kernel, rfl⟩
theorem dL_law_1478 : uD 2 cL_law 1478 (.iload 6) 1480 := ⟨by decide +kernel, rfl⟩
theorem dL_law_1480 : uJ cL_law 1480 (fun o => .if_icmp .eq o) 1485 1483 := ⟨5, by decide +kernel, by decide, rfl⟩
theorem dL_law_1483 : uD 1 cL_law 1483 (.iconst 0) 1484 := ⟨by decide +kernel, rfl⟩
theorem dL_law_1484 : uD 1 cL_law 1484 (.ireturn) 1485 := ⟨by decide +kernel, rfl⟩
theorem dL_law_1485 : uD 2 cL_law 1485 (.iload 6) 1487 := ⟨by decide +kernel, rfl⟩
theorem dL_law_1487 : uJ cL_law 1487 (fun o => .ifCond .ne o) 1502 1490 := ⟨15, by decide +kernel, by decide, rfl⟩
theorem dL_law_1490 : uD 1 cL_law 1490 (.aload_n 3) 1491 := ⟨by decide +kernel, rfl⟩
theorem dL_law_1491 : uD 1 cL_law 1491 (.iconst 0) 1492 := ⟨by decide +kernel, rfl⟩
theorem dL_law_1492 : uD 1 cL_law 1492 (.laload) 1493 := ⟨by decide +kernel, rfl⟩
theorem dL_law_1493 : uD 2 cL_law 1493 (.iload 7) 1495 := ⟨by decide +kernel, rfl⟩
theorem dL_law_1495 : uD 1 cL_law 1495 (.i2l) 1496 := ⟨by decide +kernel, rfl⟩
theorem dL_law_1496 : uD 1 cL_law 1496 (.lcmp) 1497 := ⟨by decide +kernel, rfl⟩
theorem dL_law_1497 : uJ cL_law 1497 (fun o => .ifCond .eq o) 1502 1500 := ⟨5, by decide +kernel, by decide, rfl⟩
theorem dL_law_1500 : uD 1 cL_law 1500 (.iconst 0) 1501 := ⟨by decide +kernel, rfl⟩
theorem dL_law_1501 : uD 1 cL_law 1501 (.ireturn) 1502 := ⟨by decide +kernel, rfl⟩
theorem dL_law_1502 : uJ cL_law 1502 (fun o => .goto o) 2116 1505 := ⟨614, by decide +kernel, by decide, rfl⟩
theorem dL_law_1505 : uD 1 cL_law 1505 (.aload_n 1) 1506 := ⟨by decide +kernel, rfl⟩
theorem dL_law_1506 : uD 1 cL_law 1506 (.aload_n 0) 1507 := ⟨by decide +kernel, rfl⟩
theorem dL_law_1507 : uD 2 cL_law 1507 (.iload 5) 1509 := ⟨by decide +kernel, rfl⟩
theorem dL_law_1509 : uD 1 cL_law 1509 (.iconst 1) 1510 := ⟨by decide +kernel, rfl⟩
theorem dL_law_1510 : uD 1 cL_law 1510 (.iadd) 1511 := ⟨by decide +kernel, rfl⟩
theorem dL_law_1511 : uD 1 cL_law 1511 (.iaload) 1512 := ⟨by decide +kernel, rfl⟩
theorem dL_law_1512 : uD 1 cL_law 1512 (.aload_n 3) 1513 := ⟨by decide +kernel, rfl⟩
theorem dL_law_1513 : uD 3 cL_law 1513 (.invokestatic 204) 1516 := ⟨by decide +kernel, rfl⟩
theorem dL_law_1516 : uD 2 cL_law 1516 (.istore 6) 1518 := ⟨by decide +kernel, rfl⟩
theorem dL_law_1518 : uD 1 cL_law 1518 (.aload_n 2) 1519 := ⟨by decide +kernel, rfl⟩
theorem dL_law_1519 : uD 1 cL_law 1519 (.aload_n 0) 1520 := ⟨by decide +kernel, rfl⟩
theorem dL_law_1520 : uD 2 cL_law 1520 (.iload 5) 1522 := ⟨by decide +kernel, rfl⟩
theorem dL_law_1522 : uD 1 cL_law 1522 (.iconst 1) 1523 := ⟨by decide +kernel, rfl⟩
theorem dL_law_1523 : uD 1 cL_law 1523 (.iadd) 1524 := ⟨by decide +kernel, rfl⟩
theorem dL_law_1524 : uD 1 cL_law 1524 (.iaload) 1525 := ⟨by decide +kernel, rfl⟩
theorem dL_law_1525 : uD 3 cL_law 1525 (.invokevirtual 206) 1528 := ⟨by decide +kernel, rfl⟩
theorem dL_law_1528 : uD 2 cL_law 1528 (.istore 7) 1530 := ⟨by decide +kernel, rfl⟩
theorem dL_law_1530 : uD 1 cL_law 1530 (.aload_n 2) 1531 := ⟨by decide +kernel, rfl⟩
theorem dL_law_1531 : uD 3 cL_law 1531 (.invokevirtual 125) 1534 := ⟨by decide +kernel, rfl⟩
theorem dL_law_1534 : uD 2 cL_law 1534 (.iload 6) 1536 := ⟨by decide +kernel, rfl⟩
theorem dL_law_1536 : uJ cL_law 1536 (fun o => .if_icmp .eq o) 1541 1539 := ⟨5, by decide +kernel, by decide, rfl⟩
theorem dL_law_1539 : uD 1 cL_law 1539 (.iconst 0) 1540 := ⟨by decide +kernel, rfl⟩
theorem dL_law_1540 : uD 1 cL_law 1540 (.ireturn) 1541 := ⟨by decide +kernel, rfl⟩
theorem dL_law_1541 : uD 2 cL_law 1541 (.iload 6) 1543 := ⟨by decide +kernel, rfl⟩
theorem dL_law_1543 : uJ cL_law 1543 (fun o => .ifCond .ne o) 1558 1546 := ⟨15, by decide +kernel, by decide, rfl⟩
theorem dL_law_1546 : uD 1 cL_law 1546 (.aload_n 3) 1547 := ⟨by decide +kernel, rfl⟩
theorem dL_law_1547 : uD 1 cL_law 1547 (.iconst 0) 1548 := ⟨by decide +kernel, rfl⟩
theorem dL_law_1548 : uD 1 cL_law 1548 (.laload) 1549 := ⟨by decide +kernel, rfl⟩
theorem dL_law_1549 : uD 2 cL_law 1549 (.iload 7) 1551 := ⟨by decide +kernel, rfl⟩
theorem dL_law_1551 : uD 1 cL_law 1551 (.i2l) 1552 := ⟨by decide +kernel, rfl⟩
theorem dL_law_1552 : uD 1 cL_law 1552 (.lcmp) 1553 := ⟨by decide +kernel, rfl⟩
theorem dL_law_1553 : uJ cL_law 1553 (fun o => .ifCond .eq o) 1558 1556 := ⟨5, by decide +kernel, by decide, rfl⟩
theorem dL_law_1556 : uD 1 cL_law 1556 (.iconst 0) 1557 := ⟨by decide +kernel, rfl⟩
theorem dL_law_1557 : uD 1 cL_law 1557 (.ireturn) 1558 := ⟨by decide +kernel, rfl⟩
theorem dL_law_1558 : uJ cL_law 1558 (fun o => .goto o) 2116 1561 := ⟨558, by decide +kernel, by decide, rfl⟩
theorem dL_law_1561 : uD 1 cL_law 1561 (.aload_n 1) 1562 := ⟨by decide +kernel, rfl⟩
theorem dL_law_1562 : uD 1 cL_law 1562 (.aload_n 0) 1563 := ⟨by decide +kernel, rfl⟩
theorem dL_law_1563 : uD 2 cL_law 1563 (.iload 5) 1565 := ⟨by decide +kernel, rfl⟩
theorem dL_law_1565 : uD 1 cL_law 1565 (.iconst 1) 1566 := ⟨by decide +kernel, rfl⟩
theorem dL_law_1566 : uD 1 cL_law 1566 (.iadd) 1567 := ⟨by decide +kernel, rfl⟩
theorem dL_law_1567 : uD 1 cL_law 1567 (.iaload) 1568 := ⟨by decide +kernel, rfl⟩
theorem dL_law_1568 : uD 1 cL_law 1568 (.aload_n 3) 1569 := ⟨by decide +kernel, rfl⟩
theorem dL_law_1569 : uD 3 cL_law 1569 (.invokestatic 207) 1572 := ⟨by decide +kernel, rfl⟩
theorem dL_law_1572 : uD 2 cL_law 1572 (.istore 6) 1574 := ⟨by decide +kernel, rfl⟩
theorem dL_law_1574 : uD 1 cL_law 1574 (.aload_n 2) 1575 := ⟨by decide +kernel, rfl⟩
theorem dL_law_1575 : uD 1 cL_law 1575 (.aload_n 0) 1576 := ⟨by decide +kernel, rfl⟩
theorem dL_law_1576 : uD 2 cL_law 1576 (.iload 5) 1578 := ⟨by decide +kernel, rfl⟩
theorem dL_law_1578 : uD 1 cL_law 1578 (.iconst 1) 1579 := ⟨by decide +kernel, rfl⟩
theorem dL_law_1579 : uD 1 cL_law 1579 (.iadd) 1580 := ⟨by decide +kernel, rfl⟩
theorem dL_law_1580 : uD 1 cL_law 1580 (.iaload) 1581 := ⟨by decide +kernel, rfl⟩
theorem dL_law_1581 : uD 3 cL_law 1581 (.invokevirtual 209) 1584 := ⟨by decide +kernel, rfl⟩
theorem dL_law_1584 : uD 2 cL_law 1584 (.istore 7) 1586 := ⟨by decide +kernel, rfl⟩
theorem dL_law_1586 : uD 1 cL_law 1586 (.aload_n 2) 1587 := ⟨by decide +kernel, rfl⟩
theorem dL_law_1587 : uD 3 cL_law 1587 (.invokevirtual 125) 1590 := ⟨by decide +kernel, rfl⟩
theorem dL_law_1590 : uD 2 cL_law 1590 (.iload 6) 1592 := ⟨by decide +kernel, rfl⟩
theorem dL_law_1592 : uJ cL_law 1592 (fun o => .if_icmp .eq o) 1597 1595 := ⟨5, by decide +kernel, by decide, rfl⟩
theorem dL_law_1595 : uD 1 cL_law 1595 (.iconst 0) 1596 := ⟨by decide +kernel, rfl⟩
theorem dL_law_1596 : uD 1 cL_law 1596 (.ireturn) 1597 := ⟨by decide +kernel, rfl⟩
theorem dL_law_1597 : uD 2 cL_law 1597 (.iload 6) 1599 := ⟨by decide +kernel, rfl⟩
theorem dL_law_1599 : uJ cL_law 1599 (fun o => .ifCond .ne o) 1614 1602 := ⟨15, by decide +kernel, by decide, rfl⟩
theorem dL_law_1602 : uD 1 cL_law 1602 (.aload_n 3) 1603 := ⟨by decide +kernel, rfl⟩
theorem dL_law_1603 : uD 1 cL_law 1603 (.iconst 0) 1604 := ⟨by decide +kernel, rfl⟩
theorem dL_law_1604 : uD 1 cL_law 1604 (.laload) 1605 := ⟨by decide +kernel, rfl⟩
theorem dL_law_1605 : uD 2 cL_law 1605 (.iload 7) 1607 := ⟨by decide +kernel, rfl⟩
theorem dL_law_1607 : uD 1 cL_law 1607 (.i2l) 1608 := ⟨by decide +kernel, rfl⟩
theorem dL_law_1608 : uD 1 cL_law 1608 (.lcmp) 1609 := ⟨by decide +kernel, rfl⟩
theorem dL_law_1609 : uJ cL_law 1609 (fun o => .ifCond .eq o) 1614 1612 := ⟨5, by decide +kernel, by decide, rfl⟩
theorem dL_law_1612 : uD 1 cL_law 1612 (.iconst 0) 1613 := ⟨by decide +kernel, rfl⟩
theorem dL_law_1613 : uD 1 cL_law 1613 (.ireturn) 1614 := ⟨by decide +kernel, rfl⟩
theorem dL_law_1614 : uJ cL_law 1614 (fun o => .goto o) 2116 1617 := ⟨502, by decide +kernel, by decide, rfl⟩
theorem dL_law_1617 : uD 1 cL_law 1617 (.aload_n 1) 1618 := ⟨by decide +kernel, rfl⟩
theorem dL_law_1618 : uD 1 cL_law 1618 (.aload_n 0) 1619 := ⟨by decide +kernel, rfl⟩
theorem dL_law_1619 : uD 2 cL_law 1619 (.iload 5) 1621 := ⟨by decide +kernel, rfl⟩
theorem dL_law_1621 : uD 1 cL_law 1621 (.iconst 1) 1622 := ⟨by decide +kernel, rfl⟩
theorem dL_law_1622 : uD 1 cL_law 1622 (.iadd) 1623 := ⟨by decide +kernel, rfl⟩
theorem dL_law_1623 : uD 1 cL_law 1623 (.iaload) 1624 := ⟨by decide +kernel, rfl⟩
theorem dL_law_1624 : uD 1 cL_law 1624 (.aload_n 3) 1625 := ⟨by decide +kernel, rfl⟩
theorem dL_law_1625 : uD 3 cL_law 1625 (.invokestatic 210) 1628 := ⟨by decide +kernel, rfl⟩
theorem dL_law_1628 : uD 2 cL_law 1628 (.istore 6) 1630 := ⟨by decide +kernel, rfl⟩
theorem dL_law_1630 : uD 1 cL_law 1630 (.aload_n 2) 1631 := ⟨by decide +kernel, rfl⟩
theorem dL_law_1631 : uD 1 cL_law 1631 (.aload_n 0) 1632 := ⟨by decide +kernel, rfl⟩
theorem dL_law_1632 : uD 2 cL_law 1632 (.iload 5) 1634 := ⟨by decide +kernel, rfl⟩
theorem dL_law_1634 : uD 1 cL_law 1634 (.iconst 1) 1635 := ⟨by decide +kernel, rfl⟩
theorem dL_law_1635 : uD 1 cL_law 1635 (.iadd) 1636 := ⟨by decide +kernel, rfl⟩
theorem dL_law_1636 : uD 1 cL_law 1636 (.iaload) 1637 := ⟨by decide +kernel, rfl⟩
theorem dL_law_1637 : uD 3 cL_law 1637 (.invokevirtual 212) 1640 := ⟨by decide +kernel, rfl⟩
theorem dL_law_1640 : uD 2 cL_law 1640 (.istore 7) 1642 := ⟨by decide +kernel, rfl⟩
theorem dL_law_1642 : uD 1 cL_law 1642 (.aload_n 2) 1643 := ⟨by decide +kernel, rfl⟩
theorem dL_law_1643 : uD 3 cL_law 1643 (.invokevirtual 125) 1646 := ⟨by decide +kernel, rfl⟩
theorem dL_law_1646 : uD 2 cL_law 1646 (.iload 6) 1648 := ⟨by decide +kernel, rfl⟩
theorem dL_law_1648 : uJ cL_law 1648 (fun o => .if_icmp .eq o) 1653 1651 := ⟨5, by decide +kernel, by decide, rfl⟩
theorem dL_law_1651 : uD 1 cL_law 1651 (.iconst 0) 1652 := ⟨by decide +kernel, rfl⟩
theorem dL_law_1652 : uD 1 cL_law 1652 (.ireturn) 1653 := ⟨by decide +kernel, rfl⟩
theorem dL_law_1653 : uD 2 cL_law 1653 (.iload 6) 1655 := ⟨by decide +kernel, rfl⟩
theorem dL_law_1655 : uJ cL_law 1655 (fun o => .ifCond .ne o) 1670 1658 := ⟨15, by decide +kernel, by decide, rfl⟩
theorem dL_law_1658 : uD 1 cL_law 1658 (.aload_n 3) 1659 := ⟨by decide +kernel, rfl⟩
theorem dL_law_1659 : uD 1 cL_law 1659 (.iconst 0) 1660 := ⟨by decide +kernel, rfl⟩
theorem dL_law_1660 : uD 1 cL_law 1660 (.laload) 1661 := ⟨by decide +kernel, rfl⟩
theorem dL_law_1661 : uD 2 cL_law 1661 (.iload 7) 1663 := ⟨by decide +kernel, rfl⟩
theorem dL_law_1663 : uD 1 cL_law 1663 (.i2l) 1664 := ⟨by decide +kernel, rfl⟩
theorem dL_law_1664 : uD 1 cL_law 1664 (.lcmp) 1665 := ⟨by decide +kernel, rfl⟩
theorem dL_law_1665 : uJ cL_law 1665 (fun o => .ifCond .eq o) 1670 1668 := ⟨5, by decide +kernel, by decide, rfl⟩
theorem dL_law_1668 : uD 1 cL_law 1668 (.iconst 0) 1669 := ⟨by decide +kernel, rfl⟩
theorem dL_law_1669 : uD 1 cL_law 1669 (.ireturn) 1670 := ⟨by decide +kernel, rfl⟩
theorem dL_law_1670 : uJ cL_law 1670 (fun o => .goto o) 2116 1673 := ⟨446, by decide +kernel, by decide, rfl⟩
theorem dL_law_1673 : uD 1 cL_law 1673 (.aload_n 1) 1674 := ⟨by decide +kernel, rfl⟩
theorem dL_law_1674 : uD 1 cL_law 1674 (.aload_n 0) 1675 := ⟨by decide +kernel, rfl⟩
theorem dL_law_1675 : uD 2 cL_law 1675 (.iload 5) 1677 := ⟨by decide +kernel, rfl⟩
theorem dL_law_1677 : uD 1 cL_law 1677 (.iconst 1) 1678 := ⟨by decide +kernel, rfl⟩
theorem dL_law_1678 : uD 1 cL_law 1678 (.iadd) 1679 := ⟨by decide +kernel, rfl⟩
theorem dL_law_1679 : uD 1 cL_law 1679 (.iaload) 1680 := ⟨by decide +kernel, rfl⟩
theorem dL_law_1680 : uD 2 cL_law 1680 (.aload 4) 1682 := ⟨by decide +kernel, rfl⟩
theorem dL_law_1682 : uD 3 cL_law 1682 (.invokestatic 213) 1685 := ⟨by decide +kernel, rfl⟩
theorem dL_law_1685 : uD 2 cL_law 1685 (.istore 6) 1687 := ⟨by decide +kernel, rfl⟩
theorem dL_law_1687 : uD 1 cL_law 1687 (.aload_n 2) 1688 := ⟨by decide +kernel, rfl⟩
theorem dL_law_1688 : uD 1 cL_law 1688 (.aload_n 0) 1689 := ⟨by decide +kernel, rfl⟩
theorem dL_law_1689 : uD 2 cL_law 1689 (.iload 5) 1691 := ⟨by decide +kernel, rfl⟩
theorem dL_law_1691 : uD 1 cL_law 1691 (.iconst 1) 1692 := ⟨by decide +kernel, rfl⟩
theorem dL_law_1692 : uD 1 cL_law 1692 (.iadd) 1693 := ⟨by decide +kernel, rfl⟩
theorem dL_law_1693 : uD 1 cL_law 1693 (.iaload) 1694 := ⟨by decide +kernel, rfl⟩
theorem dL_law_1694 : uD 3 cL_law 1694 (.invokevirtual 216) 1697 := ⟨by decide +kernel, rfl⟩
theorem dL_law_1697 : uD 2 cL_law 1697 (.dstore 7) 1699 := ⟨by decide +kernel, rfl⟩
theorem dL_law_1699 : uD 1 cL_law 1699 (.aload_n 2) 1700 := ⟨by decide +kernel, rfl⟩
theorem dL_law_1700 : uD 3 cL_law 1700 (.invokevirtual 125) 1703 := ⟨by decide +kernel, rfl⟩
theorem dL_law_1703 : uD 2 cL_law 1703 (.iload 6) 1705 := ⟨by decide +kernel, rfl⟩
theorem dL_law_1705 : uJ cL_law 1705 (fun o => .if_icmp .eq o) 1710 1708 := ⟨5, by decide +kernel, by decide, rfl⟩
theorem dL_law_1708 : uD 1 cL_law 1708 (.iconst 0) 1709 := ⟨by decide +kernel, rfl⟩
theorem dL_law_1709 : uD 1 cL_law 1709 (.ireturn) 1710 := ⟨by decide +kernel, rfl⟩
theorem dL_law_1710 : uD 2 cL_law 1710 (.iload 6) 1712 := ⟨by decide +kernel, rfl⟩
theorem dL_law_1712 : uJ cL_law 1712 (fun o => .ifCond .ne o) 1747 1715 := ⟨35, by decide +kernel, by decide, rfl⟩
theorem dL_law_1715 : uD 2 cL_law 1715 (.aload 4) 1717 := ⟨by decide +kernel, rfl⟩
theorem dL_law_1717 : uD 1 cL_law 1717 (.iconst 0) 1718 := ⟨by decide +kernel, rfl⟩
theorem dL_law_1718 : uD 1 cL_law 1718 (.daload) 1719 := ⟨by decide +kernel, rfl⟩
theorem dL_law_1719 : uD 2 cL_law 1719 (.dload 7) 1721 := ⟨by decide +kernel, rfl⟩
theorem dL_law_1721 : uD 1 cL_law 1721 (.dcmp .l) 1722 := ⟨by decide +kernel, rfl⟩
theorem dL_law_1722 : uJ cL_law 1722 (fun o => .ifCond .eq o) 1747 1725 := ⟨25, by decide +kernel, by decide, rfl⟩
theorem dL_law_1725 : uD 2 cL_law 1725 (.aload 4) 1727 := ⟨by decide +kernel, rfl⟩
theorem dL_law_1727 : uD 1 cL_law 1727 (.iconst 0) 1728 := ⟨by decide +kernel, rfl⟩
theorem dL_law_1728 : uD 1 cL_law 1728 (.daload) 1729 := ⟨by decide +kernel, rfl⟩
theorem dL_law_1729 : uD 2 cL_law 1729 (.aload 4) 1731 := ⟨by decide +kernel, rfl⟩
theorem dL_law_1731 : uD 1 cL_law 1731 (.iconst 0) 1732 := ⟨by decide +kernel, rfl⟩
theorem dL_law_1732 : uD 1 cL_law 1732 (.daload) 1733 := ⟨by decide +kernel, rfl⟩
theorem dL_law_1733 : uD 1 cL_law 1733 (.dcmp .l) 1734 := ⟨by decide +kernel, rfl⟩
theorem dL_law_1734 : uJ cL_law 1734 (fun o => .ifCond .eq o) 1745 1737 := ⟨11, by decide +kernel, by decide, rfl⟩
theorem dL_law_1737 : uD 2 cL_law 1737 (.dload 7) 1739 := ⟨by decide +kernel, rfl⟩
theorem dL_law_1739 : uD 2 cL_law 1739 (.dload 7) 1741 := ⟨by decide +kernel, rfl⟩
theorem dL_law_1741 : uD 1 cL_law 1741 (.dcmp .l) 1742 := ⟨by decide +kernel, rfl⟩
theorem dL_law_1742 : uJ cL_law 1742 (fun o => .ifCond .ne o) 1747 1745 := ⟨5, by decide +kernel, by decide, rfl⟩
theorem dL_law_1745 : uD 1 cL_law 1745 (.iconst 0) 1746 := ⟨by decide +kernel, rfl⟩
theorem dL_law_1746 : uD 1 cL_law 1746 (.ireturn) 1747 := ⟨by decide +kernel, rfl⟩
theorem dL_law_1747 : uJ cL_law 1747 (fun o => .goto o) 2116 1750 := ⟨369, by decide +kernel, by decide, rfl⟩
theorem dL_law_1750 : uD 1 cL_law 1750 (.aload_n 1) 1751 := ⟨by decide +kernel, rfl⟩
theorem dL_law_1751 : uD 1 cL_law 1751 (.aload_n 0) 1752 := ⟨by decide +kernel, rfl⟩
theorem dL_law_1752 : uD 2 cL_law 1752 (.iload 5) 1754 := ⟨by decide +kernel, rfl⟩
theorem dL_law_1754 : uD 1 cL_law 1754 (.iconst 1) 1755 := ⟨by decide +kernel, rfl⟩
theorem dL_law_1755 : uD 1 cL_law 1755 (.iadd) 1756 := ⟨by decide +kernel, rfl⟩
theorem dL_law_1756 : uD 1 cL_law 1756 (.iaload) 1757 := ⟨by decide +kernel, rfl⟩
theorem dL_law_1757 : uD 1 cL_law 1757 (.aload_n 3) 1758 := ⟨by decide +kernel, rfl⟩
theorem dL_law_1758 : uD 3 cL_law 1758 (.invokestatic 217) 1761 := ⟨by decide +kernel, rfl⟩
theorem dL_law_1761 : uD 2 cL_law 1761 (.istore 6) 1763 := ⟨by decide +kernel, rfl⟩
theorem dL_law_1763 : uD 1 cL_law 1763 (.aload_n 2) 1764 := ⟨by decide +kernel, rfl⟩
theorem dL_law_1764 : uD 1 cL_law 1764 (.aload_n 0) 1765 := ⟨by decide +kernel, rfl⟩
theorem dL_law_1765 : uD 2 cL_law 1765 (.iload 5) 1767 := ⟨by decide +kernel, rfl⟩
theorem dL_law_1767 : uD 1 cL_law 1767 (.iconst 1) 1768 := ⟨by decide +kernel, rfl⟩
theorem dL_law_1768 : uD 1 cL_law 1768 (.iadd) 1769 := ⟨by decide +kernel, rfl⟩
theorem dL_law_1769 : uD 1 cL_law 1769 (.iaload) 1770 := ⟨by decide +kernel, rfl⟩
theorem dL_law_1770 : uD 3 cL_law 1770 (.invokevirtual 219) 1773 := ⟨by decide +kernel, rfl⟩
theorem dL_law_1773 : uD 2 cL_law 1773 (.istore 7) 1775 := ⟨by decide +kernel, rfl⟩
theorem dL_law_1775 : uD 1 cL_law 1775 (.aload_n 2) 1776 := ⟨by decide +kernel, rfl⟩
theorem dL_law_1776 : uD 3 cL_law 1776 (.invokevirtual 125) 1779 := ⟨by decide +kernel, rfl⟩
theorem dL_law_1779 : uD 2 cL_law 1779 (.iload 6) 1781 := ⟨by decide +kernel, rfl⟩
theorem dL_law_1781 : uJ cL_law 1781 (fun o => .if_icmp .eq o) 1786 1784 := ⟨5, by decide +kernel, by decide, rfl⟩
theorem dL_law_1784 : uD 1 cL_law 1784 (.iconst 0) 1785 := ⟨by decide +kernel, rfl⟩
theorem dL_law_1785 : uD 1 cL_law 1785 (.ireturn) 1786 := ⟨by decide +kernel, rfl⟩
theorem dL_law_1786 : uD 2 cL_law 1786 (.iload 6) 1788 := ⟨by decide +kernel, rfl⟩
theorem dL_law_1788 : uJ cL_law 1788 (fun o => .ifCond .ne o) 1803 1791 := ⟨15, by decide +kernel, by decide, rfl⟩
theorem dL_law_1791 : uD 1 cL_law 1791 (.aload_n 3) 1792 := ⟨by decide +kernel, rfl⟩
theorem dL_law_1792 : uD 1 cL_law 1792 (.iconst 0) 1793 := ⟨by decide +kernel, rfl⟩
theorem dL_law_1793 : uD 1 cL_law 1793 (.laload) 1794 := ⟨by decide +kernel, rfl⟩
theorem dL_law_1794 : uD 2 cL_law 1794 (.iload 7) 1796 := ⟨by decide +kernel, rfl⟩
theorem dL_law_1796 : uD 1 cL_law 1796 (.i2l) 1797 := ⟨by decide +kernel, rfl⟩
theorem dL_law_1797 : uD 1 cL_law 1797 (.lcmp) 1798 := ⟨by decide +kernel, rfl⟩
theorem dL_law_1798 : uJ cL_law 1798 (fun o => .ifCond .eq o) 1803 1801 := ⟨5, by decide +kernel, by decide, rfl⟩
theorem dL_law_1801 : uD 1 cL_law 1801 (.iconst 0) 1802 := ⟨by decide +kernel, rfl⟩
theorem dL_law_1802 : uD 1 cL_law 1802 (.ireturn) 1803 := ⟨by decide +kernel, rfl⟩
theorem dL_law_1803 : uJ cL_law 1803 (fun o => .goto o) 2116 1806 := ⟨313, by decide +kernel, by decide, rfl⟩
theorem dL_law_1806 : uD 1 cL_law 1806 (.aload_n 1) 1807 := ⟨by decide +kernel, rfl⟩
theorem dL_law_1807 : uD 1 cL_law 1807 (.aload_n 0) 1808 := ⟨by decide +kernel, rfl⟩
theorem dL_law_1808 : uD 2 cL_law 1808 (.iload 5) 1810 := ⟨by decide +kernel, rfl⟩
theorem dL_law_1810 : uD 1 cL_law 1810 (.iconst 1) 1811 := ⟨by decide +kernel, rfl⟩
theorem dL_law_1811 : uD 1 cL_law 1811 (.iadd) 1812 := ⟨by decide +kernel, rfl⟩
theorem dL_law_1812 : uD 1 cL_law 1812 (.iaload) 1813 := ⟨by decide +kernel, rfl⟩
theorem dL_law_1813 : uD 1 cL_law 1813 (.aload_n 3) 1814 := ⟨by decide +kernel, rfl⟩
theorem dL_law_1814 : uD 3 cL_law 1814 (.invokestatic 220) 1817 := ⟨by decide +kernel, rfl⟩
theorem dL_law_1817 : uD 2 cL_law 1817 (.istore 6) 1819 := ⟨by decide +kernel, rfl⟩
theorem dL_law_1819 : uD 1 cL_law 1819 (.aload_n 2) 1820 := ⟨by decide +kernel, rfl⟩
theorem dL_law_1820 : uD 1 cL_law 1820 (.aload_n 0) 1821 := ⟨by decide +kernel, rfl⟩
theorem dL_law_1821 : uD 2 cL_law 1821 (.iload 5) 1823 := ⟨by decide +kernel, rfl⟩
theorem dL_law_1823 : uD 1 cL_law 1823 (.iconst 1) 1824 := ⟨by decide +kernel, rfl⟩
theorem dL_law_1824 : uD 1 cL_law 1824 (.iadd) 1825 := ⟨by decide +kernel, rfl⟩
theorem dL_law_1825 : uD 1 cL_law 1825 (.iaload) 1826 := ⟨by decide +kernel, rfl⟩
theorem dL_law_1826 : uD 3 cL_law 1826 (.invokevirtual 222) 1829 := ⟨by decide +kernel, rfl⟩
theorem dL_law_1829 : uD 2 cL_law 1829 (.istore 7) 1831 := ⟨by decide +kernel, rfl⟩
theorem dL_law_1831 : uD 1 cL_law 1831 (.aload_n 2) 1832 := ⟨by decide +kernel, rfl⟩
theorem dL_law_1832 : uD 3 cL_law 1832 (.invokevirtual 125) 1835 := ⟨by decide +kernel, rfl⟩
theorem dL_law_1835 : uD 2 cL_law 1835 (.iload 6) 1837 := ⟨by decide +kernel, rfl⟩
theorem dL_law_1837 : uJ cL_law 1837 (fun o => .if_icmp .eq o) 1842 1840 := ⟨5, by decide +kernel, by decide, rfl⟩
theorem dL_law_1840 : uD 1 cL_law 1840 (.iconst 0) 1841 := ⟨by decide +kernel, rfl⟩
theorem dL_law_1841 : uD 1 cL_law 1841 (.ireturn) 1842 := ⟨by decide +kernel, rfl⟩
theorem dL_law_1842 : uD 2 cL_law 1842 (.iload 6) 1844 := ⟨by decide +kernel, rfl⟩
theorem dL_law_1844 : uJ cL_law 1844 (fun o => .ifCond .ne o) 1859 1847 := ⟨15, by decide +kernel, by decide, rfl⟩
theorem dL_law_1847 : uD 1 cL_law 1847 (.aload_n 3) 1848 := ⟨by decide +kernel, rfl⟩
theorem dL_law_1848 : uD 1 cL_law 1848 (.iconst 0) 1849 := ⟨by decide +kernel, rfl⟩
theorem dL_law_1849 : uD 1 cL_law 1849 (.laload) 1850 := ⟨by decide +kernel, rfl⟩
theorem dL_law_1850 : uD 2 cL_law 1850 (.iload 7) 1852 := ⟨by decide +kernel, rfl⟩
theorem dL_law_1852 : uD 1 cL_law 1852 (.i2l) 1853 := ⟨by decide +kernel, rfl⟩
theorem dL_law_1853 : uD 1 cL_law 1853 (.lcmp) 1854 := ⟨by decide +kernel, rfl⟩
theorem dL_law_1854 : uJ cL_law 1854 (fun o => .ifCond .eq o) 1859 1857 := ⟨5, by decide +kernel, by decide, rfl⟩
theorem dL_law_1857 : uD 1 cL_law 1857 (.iconst 0) 1858 := ⟨by decide +kernel, rfl⟩
theorem dL_law_1858 : uD 1 cL_law 1858 (.ireturn) 1859 := ⟨by decide +kernel, rfl⟩
theorem dL_law_1859 : uJ cL_law 1859 (fun o => .goto o) 2116 1862 := ⟨257, by decide +kernel, by decide, rfl⟩
theorem dL_law_1862 : uD 1 cL_law 1862 (.aload_n 1) 1863 := ⟨by decide +kernel, rfl⟩
theorem dL_law_1863 : uD 3 cL_law 1863 (.invokevirtual 223) 1866 := ⟨by decide +kernel, rfl⟩
theorem dL_law_1866 : uD 1 cL_law 1866 (.aload_n 2) 1867 := ⟨by decide +kernel, rfl⟩
theorem dL_law_1867 : uD 3 cL_law 1867 (.invokevirtual 226) 1870 := ⟨by decide +kernel, rfl⟩
theorem dL_law_1870 : uJ cL_law 1870 (fun o => .if_icmp .eq o) 2116 1873 := ⟨246, by decide +kernel, by decide, rfl⟩
theorem dL_law_1873 : uD 1 cL_law 1873 (.iconst 0) 1874 := ⟨by decide +kernel, rfl⟩
theorem dL_law_1874 : uD 1 cL_law 1874 (.ireturn) 1875 := ⟨by decide +kernel, rfl⟩
theorem dL_law_1875 : uD 1 cL_law 1875 (.aload_n 1) 1876 := ⟨by decide +kernel, rfl⟩
theorem dL_law_1876 : uD 1 cL_law 1876 (.aload_n 0) 1877 := ⟨by decide +kernel, rfl⟩
theorem dL_law_1877 : uD 2 cL_law 1877 (.iload 5) 1879 := ⟨by decide +kernel, rfl⟩
theorem dL_law_1879 : uD 1 cL_law 1879 (.iconst 1) 1880 := ⟨by decide +kernel, rfl⟩
theorem dL_law_1880 : uD 1 cL_law 1880 (.iadd) 1881 := ⟨by decide +kernel, rfl⟩
theorem dL_law_1881 : uD 1 cL_law 1881 (.iaload) 1882 := ⟨by decide +kernel, rfl⟩
theorem dL_law_1882 : uD 1 cL_law 1882 (.aload_n 3) 1883 := ⟨by decide +kernel, rfl⟩
theorem dL_law_1883 : uD 3 cL_law 1883 (.invokestatic 227) 1886 := ⟨by decide +kernel, rfl⟩
theorem dL_law_1886 : uD 2 cL_law 1886 (.istore 6) 1888 := ⟨by decide +kernel, rfl⟩
theorem dL_law_1888 : uD 1 cL_law 1888 (.aload_n 2) 1889 := ⟨by decide +kernel, rfl⟩
theorem dL_law_1889 : uD 1 cL_law 1889 (.aload_n 0) 1890 := ⟨by decide +kernel, rfl⟩
theorem dL_law_1890 : uD 2 cL_law 1890 (.iload 5) 1892 := ⟨by decide +kernel, rfl⟩
theorem dL_law_1892 : uD 1 cL_law 1892 (.iconst 1) 1893 := ⟨by decide +kernel, rfl⟩
theorem dL_law_1893 : uD 1 cL_law 1893 (.iadd) 1894 := ⟨by decide +kernel, rfl⟩
theorem dL_law_1894 : uD 1 cL_law 1894 (.iaload) 1895 := ⟨by decide +kernel, rfl⟩
theorem dL_law_1895 : uD 3 cL_law 1895 (.invokevirtual 229) 1898 := ⟨by decide +kernel, rfl⟩
theorem dL_law_1898 : uD 2 cL_law 1898 (.istore 7) 1900 := ⟨by decide +kernel, rfl⟩
theorem dL_law_1900 : uD 1 cL_law 1900 (.aload_n 2) 1901 := ⟨by decide +kernel, rfl⟩
theorem dL_law_1901 : uD 3 cL_law 1901 (.invokevirtual 125) 1904 := ⟨by decide +kernel, rfl⟩
theorem dL_law_1904 : uD 2 cL_law 1904 (.iload 6) 1906 := ⟨by decide +kernel, rfl⟩
theorem dL_law_1906 : uJ cL_law 1906 (fun o => .if_icmp .eq o) 1911 1909 := ⟨5, by decide +kernel, by decide, rfl⟩
theorem dL_law_1909 : uD 1 cL_law 1909 (.iconst 0) 1910 := ⟨by decide +kernel, rfl⟩
theorem dL_law_1910 : uD 1 cL_law 1910 (.ireturn) 1911 := ⟨by decide +kernel, rfl⟩
theorem dL_law_1911 : uD 2 cL_law 1911 (.iload 6) 1913 := ⟨by decide +kernel, rfl⟩
theorem dL_law_1913 : uJ cL_law 1913 (fun o => .ifCond .ne o) 1928 1916 := ⟨15, by decide +kernel, by decide, rfl⟩
theorem dL_law_1916 : uD 1 cL_law 1916 (.aload_n 3) 1917 := ⟨by decide +kernel, rfl⟩
theorem dL_law_1917 : uD 1 cL_law 1917 (.iconst 0) 1918 := ⟨by decide +kernel, rfl⟩
theorem dL_law_1918 : uD 1 cL_law 1918 (.laload) 1919 := ⟨by decide +kernel, rfl⟩
theorem dL_law_1919 : uD 2 cL_law 1919 (.iload 7) 1921 := ⟨by decide +kernel, rfl⟩
theorem dL_law_1921 : uD 1 cL_law 1921 (.i2l) 1922 := ⟨by decide +kernel, rfl⟩
theorem dL_law_1922 : uD 1 cL_law 1922 (.lcmp) 1923 := ⟨by decide +kernel, rfl⟩
theorem dL_law_1923 : uJ cL_law 1923 (fun o => .ifCond .eq o) 1928 1926 := ⟨5, by decide +kernel, by decide, rfl⟩
theorem dL_law_1926 : uD 1 cL_law 1926 (.iconst 0) 1927 := ⟨by decide +kernel, rfl⟩
theorem dL_law_1927 : uD 1 cL_law 1927 (.ireturn) 1928 := ⟨by decide +kernel, rfl⟩
theorem dL_law_1928 : uJ cL_law 1928 (fun o => .goto o) 2116 1931 := ⟨188, by decide +kernel, by decide, rfl⟩
theorem dL_law_1931 : uD 1 cL_law 1931 (.aload_n 1) 1932 := ⟨by decide +kernel, rfl⟩
theorem dL_law_1932 : uD 3 cL_law 1932 (.invokevirtual 230) 1935 := ⟨by decide +kernel, rfl⟩
theorem dL_law_1935 : uD 1 cL_law 1935 (.aload_n 2) 1936 := ⟨by decide +kernel, rfl⟩
theorem dL_law_1936 : uD 3 cL_law 1936 (.invokevirtual 233) 1939 := ⟨by decide +kernel, rfl⟩
theorem dL_law_1939 : uJ cL_law 1939 (fun o => .if_icmp .eq o) 2116 1942 := ⟨177, by decide +kernel, by decide, rfl⟩
theorem dL_law_1942 : uD 1 cL_law 1942 (.iconst 0) 1943 := ⟨by decide +kernel, rfl⟩
theorem dL_law_1943 : uD 1 cL_law 1943 (.ireturn) 1944 := ⟨by decide +kernel, rfl⟩
theorem dL_law_1944 : uD 1 cL_law 1944 (.aload_n 1) 1945 := ⟨by decide +kernel, rfl⟩
theorem dL_law_1945 : uD 1 cL_law 1945 (.aload_n 0) 1946 := ⟨by decide +kernel, rfl⟩
theorem dL_law_1946 : uD 2 cL_law 1946 (.iload 5) 1948 := ⟨by decide +kernel, rfl⟩
theorem dL_law_1948 : uD 1 cL_law 1948 (.iconst 1) 1949 := ⟨by decide +kernel, rfl⟩
theorem dL_law_1949 : uD 1 cL_law 1949 (.iadd) 1950 := ⟨by decide +kernel, rfl⟩
theorem dL_law_1950 : uD 1 cL_law 1950 (.iaload) 1951 := ⟨by decide +kernel, rfl⟩
theorem dL_law_1951 : uD 1 cL_law 1951 (.aload_n 3) 1952 := ⟨by decide +kernel, rfl⟩
theorem dL_law_1952 : uD 3 cL_law 1952 (.invokestatic 234) 1955 := ⟨by decide +kernel, rfl⟩
theorem dL_law_1955 : uD 2 cL_law 1955 (.istore 6) 1957 := ⟨by decide +kernel, rfl⟩
theorem dL_law_1957 : uD 1 cL_law 1957 (.aload_n 2) 1958 := ⟨by decide +kernel, rfl⟩
theorem dL_law_1958 : uD 1 cL_law 1958 (.aload_n 0) 1959 := ⟨by decide +kernel, rfl⟩
theorem dL_law_1959 : uD 2 cL_law 1959 (.iload 5) 1961 := ⟨by decide +kernel, rfl⟩
theorem dL_law_1961 : uD 1 cL_law 1961 (.iconst 1) 1962 := ⟨by decide +kernel, rfl⟩
theorem dL_law_1962 : uD 1 cL_law 1962 (.iadd) 1963 := ⟨by decide +kernel, rfl⟩
theorem dL_law_1963 : uD 1 cL_law 1963 (.iaload) 1964 := ⟨by decide +kernel, rfl⟩
theorem dL_law_1964 : uD 3 cL_law 1964 (.invokevirtual 236) 1967 := ⟨by decide +kernel, rfl⟩
theorem dL_law_1967 : uD 2 cL_law 1967 (.istore 7) 1969 := ⟨by decide +kernel, rfl⟩
theorem dL_law_1969 : uD 1 cL_law 1969 (.aload_n 2) 1970 := ⟨by decide +kernel, rfl⟩
theorem dL_law_1970 : uD 3 cL_law 1970 (.invokevirtual 125) 1973 := ⟨by decide +kernel, rfl⟩
theorem dL_law_1973 : uD 2 cL_law 1973 (.iload 6) 1975 := ⟨by decide +kernel, rfl⟩
theorem dL_law_1975 : uJ cL_law 1975 (fun o => .if_icmp .eq o) 1980 1978 := ⟨5, by decide +kernel, by decide, rfl⟩
theorem dL_law_1978 : uD 1 cL_law 1978 (.iconst 0) 1979 := ⟨by decide +kernel, rfl⟩
theorem dL_law_1979 : uD 1 cL_law 1979 (.ireturn) 1980 := ⟨by decide +kernel, rfl⟩
theorem dL_law_1980 : uD 2 cL_law 1980 (.iload 6) 1982 := ⟨by decide +kernel, rfl⟩
theorem dL_law_1982 : uJ cL_law 1982 (fun o => .ifCond .ne o) 1997 1985 := ⟨15, by decide +kernel, by decide, rfl⟩
theorem dL_law_1985 : uD 1 cL_law 1985 (.aload_n 3) 1986 := ⟨by decide +kernel, rfl⟩
theorem dL_law_1986 : uD 1 cL_law 1986 (.iconst 0) 1987 := ⟨by decide +kernel, rfl⟩
theorem dL_law_1987 : uD 1 cL_law 1987 (.laload) 1988 := ⟨by decide +kernel, rfl⟩
theorem dL_law_1988 : uD 2 cL_law 1988 (.iload 7) 1990 := ⟨by decide +kernel, rfl⟩
theorem dL_law_1990 : uD 1 cL_law 1990 (.i2l) 1991 := ⟨by decide +kernel, rfl⟩
theorem dL_law_1991 : uD 1 cL_law 1991 (.lcmp) 1992 := ⟨by decide +kernel, rfl⟩
theorem dL_law_1992 : uJ cL_law 1992 (fun o => .ifCond .eq o) 1997 1995 := ⟨5, by decide +kernel, by decide, rfl⟩
theorem dL_law_1995 : uD 1 cL_law 1995 (.iconst 0) 1996 := ⟨by decide +kernel, rfl⟩
theorem dL_law_1996 : uD 1 cL_law 1996 (.ireturn) 1997 := ⟨by decide +kernel, rfl⟩
theorem dL_law_1997 : uJ cL_law 1997 (fun o => .goto o) 2116 2000 := ⟨119, by decide +kernel, by decide, rfl⟩
theorem dL_law_2000 : uD 1 cL_law 2000 (.aload_n 1) 2001 := ⟨by decide +kernel, rfl⟩
theorem dL_law_2001 : uD 1 cL_law 2001 (.aload_n 3) 2002 := ⟨by decide +kernel, rfl⟩
theorem dL_law_2002 : uD 3 cL_law 2002 (.invokestatic 237) 2005 := ⟨by decide +kernel, rfl⟩
theorem dL_law_2005 : uD 2 cL_law 2005 (.istore 6) 2007 := ⟨by decide +kernel, rfl⟩
theorem dL_law_2007 : uD 1 cL_law 2007 (.aload_n 2) 2008 := ⟨by decide +kernel, rfl⟩
theorem dL_law_2008 : uD 3 cL_law 2008 (.invokevirtual 239) 2011 := ⟨by decide +kernel, rfl⟩
theorem dL_law_2011 : uD 2 cL_law 2011 (.istore 7) 2013 := ⟨by decide +kernel, rfl⟩
theorem dL_law_2013 : uD 1 cL_law 2013 (.aload_n 2) 2014 := ⟨by decide +kernel, rfl⟩
theorem dL_law_2014 : uD 3 cL_law 2014 (.invokevirtual 125) 2017 := ⟨by decide +kernel, rfl⟩
theorem dL_law_2017 : uD 2 cL_law 2017 (.iload 6) 2019 := ⟨by decide +kernel, rfl⟩
theorem dL_law_2019 : uJ cL_law 2019 (fun o => .if_icmp .eq o) 2024 2022 := ⟨5, by decide +kernel, by decide, rfl⟩
theorem dL_law_2022 : uD 1 cL_law 2022 (.iconst 0) 2023 := ⟨by decide +kernel, rfl⟩
theorem dL_law_2023 : uD 1 cL_law 2023 (.ireturn) 2024 := ⟨by decide +kernel, rfl⟩
theorem dL_law_2024 : uD 2 cL_law 2024 (.iload 6) 2026 := ⟨by decide +kernel, rfl⟩
theorem dL_law_2026 : uJ cL_law 2026 (fun o => .ifCond .ne o) 2041 2029 := ⟨15, by decide +kernel, by decide, rfl⟩
theorem dL_law_2029 : uD 1 cL_law 2029 (.aload_n 3) 2030 := ⟨by decide +kernel, rfl⟩
theorem dL_law_2030 : uD 1 cL_law 2030 (.iconst 0) 2031 := ⟨by decide +kernel, rfl⟩
theorem dL_law_2031 : uD 1 cL_law 2031 (.laload) 2032 := ⟨by decide +kernel, rfl⟩
theorem dL_law_2032 : uD 2 cL_law 2032 (.iload 7) 2034 := ⟨by decide +kernel, rfl⟩
theorem dL_law_2034 : uD 1 cL_law 2034 (.i2l) 2035 := ⟨by decide +kernel, rfl⟩
theorem dL_law_2035 : uD 1 cL_law 2035 (.lcmp) 2036 := ⟨by decide +kernel, rfl⟩
theorem dL_law_2036 : uJ cL_law 2036 (fun o => .ifCond .eq o) 2041 2039 := ⟨5, by decide +kernel, by decide, rfl⟩
theorem dL_law_2039 : uD 1 cL_law 2039 (.iconst 0) 2040 := ⟨by decide +kernel, rfl⟩
theorem dL_law_2040 : uD 1 cL_law 2040 (.ireturn) 2041 := ⟨by decide +kernel, rfl⟩
theorem dL_law_2041 : uJ cL_law 2041 (fun o => .goto o) 2116 2044 := ⟨75, by decide +kernel, by decide, rfl⟩
theorem dL_law_2044 : uD 1 cL_law 2044 (.aload_n 1) 2045 := ⟨by decide +kernel, rfl⟩
theorem dL_law_2045 : uD 1 cL_law 2045 (.aload_n 0) 2046 := ⟨by decide +kernel, rfl⟩
theorem dL_law_2046 : uD 2 cL_law 2046 (.iload 5) 2048 := ⟨by decide +kernel, rfl⟩
theorem dL_law_2048 : uD 1 cL_law 2048 (.iconst 1) 2049 := ⟨by decide +kernel, rfl⟩
theorem dL_law_2049 : uD 1 cL_law 2049 (.iadd) 2050 := ⟨by decide +kernel, rfl⟩
theorem dL_law_2050 : uD 1 cL_law 2050 (.iaload) 2051 := ⟨by decide +kernel, rfl⟩
theorem dL_law_2051 : uD 3 cL_law 2051 (.invokestatic 240) 2054 := ⟨by decide +kernel, rfl⟩
theorem dL_law_2054 : uD 2 cL_law 2054 (.istore 6) 2056 := ⟨by decide +kernel, rfl⟩
theorem dL_law_2056 : uD 1 cL_law 2056 (.aload_n 2) 2057 := ⟨by decide +kernel, rfl⟩
theorem dL_law_2057 : uD 1 cL_law 2057 (.aload_n 0) 2058 := ⟨by decide +kernel, rfl⟩
theorem dL_law_2058 : uD 2 cL_law 2058 (.iload 5) 2060 := ⟨by decide +kernel, rfl⟩
theorem dL_law_2060 : uD 1 cL_law 2060 (.iconst 1) 2061 := ⟨by decide +kernel, rfl⟩
theorem dL_law_2061 : uD 1 cL_law 2061 (.iadd) 2062 := ⟨by decide +kernel, rfl⟩
theorem dL_law_2062 : uD 1 cL_law 2062 (.iaload) 2063 := ⟨by decide +kernel, rfl⟩
theorem dL_law_2063 : uD 3 cL_law 2063 (.invokevirtual 243) 2066 := ⟨by decide +kernel, rfl⟩
theorem dL_law_2066 : uD 1 cL_law 2066 (.aload_n 2) 2067 := ⟨by decide +kernel, rfl⟩
theorem dL_law_2067 : uD 3 cL_law 2067 (.invokevirtual 125) 2070 := ⟨by decide +kernel, rfl⟩
theorem dL_law_2070 : uD 2 cL_law 2070 (.iload 6) 2072 := ⟨by decide +kernel, rfl⟩
theorem dL_law_2072 : uJ cL_law 2072 (fun o => .if_icmp .eq o) 2077 2075 := ⟨5, by decide +kernel, by decide, rfl⟩
theorem dL_law_2075 : uD 1 cL_law 2075 (.iconst 0) 2076 := ⟨by decide +kernel, rfl⟩
theorem dL_law_2076 : uD 1 cL_law 2076 (.ireturn) 2077 := ⟨by decide +kernel, rfl⟩
theorem dL_law_2077 : uJ cL_law 2077 (fun o => .goto o) 2116 2080 := ⟨39, by decide +kernel, by decide, rfl⟩
theorem dL_law_2080 : uD 1 cL_law 2080 (.aload_n 1) 2081 := ⟨by decide +kernel, rfl⟩
theorem dL_law_2081 : uD 1 cL_law 2081 (.aload_n 0) 2082 := ⟨by decide +kernel, rfl⟩
theorem dL_law_2082 : uD 2 cL_law 2082 (.iload 5) 2084 := ⟨by decide +kernel, rfl⟩
theorem dL_law_2084 : uD 1 cL_law 2084 (.iconst 1) 2085 := ⟨by decide +kernel, rfl⟩
theorem dL_law_2085 : uD 1 cL_law 2085 (.iadd) 2086 := ⟨by decide +kernel, rfl⟩
theorem dL_law_2086 : uD 1 cL_law 2086 (.iaload) 2087 := ⟨by decide +kernel, rfl⟩
theorem dL_law_2087 : uD 3 cL_law 2087 (.invokestatic 244) 2090 := ⟨by decide +kernel, rfl⟩
theorem dL_law_2090 : uD 2 cL_law 2090 (.istore 6) 2092 := ⟨by decide +kernel, rfl⟩
theorem dL_law_2092 : uD 1 cL_law 2092 (.aload_n 2) 2093 := ⟨by decide +kernel, rfl⟩
theorem dL_law_2093 : uD 1 cL_law 2093 (.aload_n 0) 2094 := ⟨by decide +kernel, rfl⟩
theorem dL_law_2094 : uD 2 cL_law 2094 (.iload 5) 2096 := ⟨by decide +kernel, rfl⟩
theorem dL_law_2096 : uD 1 cL_law 2096 (.iconst 1) 2097 := ⟨by decide +kernel, rfl⟩
theorem dL_law_2097 : uD 1 cL_law 2097 (.iadd) 2098 := ⟨by decide +kernel, rfl⟩
theorem dL_law_2098 : uD 1 cL_law 2098 (.iaload) 2099 := ⟨by decide +kernel, rfl⟩
theorem dL_law_2099 : uD 3 cL_law 2099 (.invokevirtual 246) 2102 := ⟨by decide +kernel, rfl⟩
theorem dL_law_2102 : uD 1 cL_law 2102 (.aload_n 2) 2103 := ⟨by decide +kernel, rfl⟩
theorem dL_law_2103 : uD 3 cL_law 2103 (.invokevirtual 125) 2106 := ⟨by decide +kernel, rfl⟩
theorem dL_law_2106 : uD 2 cL_law 2106 (.iload 6) 2108 := ⟨by decide +kernel, rfl⟩
theorem dL_law_2108 : uJ cL_law 2108 (fun o => .if_icmp .eq o) 2113 2111 := ⟨5, by decide +kernel, by decide, rfl⟩
theorem dL_law_2111 : uD 1 cL_law 2111 (.iconst 0) 2112 := ⟨by decide +kernel, rfl⟩
theorem dL_law_2112 : uD 1 cL_law 2112 (.ireturn) 2113 := ⟨by decide +kernel, rfl⟩
theorem dL_law_2113 : uJ cL_law 2113 (fun o => .goto o) 2116 2116 := ⟨3, by decide +kernel, by decide, rfl⟩
theorem dL_law_2116 : uD 3 cL_law 2116 (.iinc 5 6) 2119 := ⟨by decide +kernel, rfl⟩
theorem dL_law_2119 : uJ cL_law 2119 (fun o => .goto o) 28 2122 := ⟨(-2091), by decide +kernel, by decide, rfl⟩
theorem dL_law_2122 : uD 1 cL_law 2122 (.iconst 1) 2123 := ⟨by decide +kernel, rfl⟩
theorem dL_law_2123 : uD 1 cL_law 2123 (.ireturn) 2124 := ⟨by decide +kernel, rfl⟩
end
