section
-- ===== PART A: goes FIRST, ahead of the names: the tables' words, and 'selects' of the private methods out of them =====
/-- a private method of a class that the tables say can be made, by its rows of tables_1 -/
def lw_okq (q : MethodName × Nat) : Prop := (q.1.cls ≠ "java/lang/invoke/MethodHandle" ∧ q.1.cls ≠ "java/lang/invoke/VarHandle") ∧ Cond.instantiable q.1.cls q.2 ∈ tables_1 ∧ Cond.privateMethod q.1 ∈ tables_1 ∧ Cond.instanceMethod q.1 ∈ tables_1
theorem lw_p0 : lw_okq (⟨"DungeonBuilder$Dungeon", "takeRoom", "(ILDungeonBuilder$Dungeon;I)V"⟩, 12) := ⟨⟨by decide +kernel, by decide +kernel⟩, List.mem_of_getElem? (i := 26) (by decide +kernel), List.mem_of_getElem? (i := 341) (by decide +kernel), List.mem_of_getElem? (i := 342) (by decide +kernel)⟩
theorem lw_p1 : lw_okq (⟨"DungeonBuilder$Dungeon", "takeCorridor", "(ILDungeonBuilder$Dungeon;I)V"⟩, 12) := ⟨⟨by decide +kernel, by decide +kernel⟩, List.mem_of_getElem? (i := 26) (by decide +kernel), List.mem_of_getElem? (i := 345) (by decide +kernel), List.mem_of_getElem? (i := 346) (by decide +kernel)⟩
theorem lw_p2 : lw_okq (⟨"DungeonBuilder$Dungeon", "meetsRoom", "(IIII)Z"⟩, 12) := ⟨⟨by decide +kernel, by decide +kernel⟩, List.mem_of_getElem? (i := 26) (by decide +kernel), List.mem_of_getElem? (i := 356) (by decide +kernel), List.mem_of_getElem? (i := 357) (by decide +kernel)⟩
theorem lw_p3 : lw_okq (⟨"DungeonBuilder", "settled", "(I)I"⟩, 10) := ⟨⟨by decide +kernel, by decide +kernel⟩, List.mem_of_getElem? (i := 18) (by decide +kernel), List.mem_of_getElem? (i := 360) (by decide +kernel), List.mem_of_getElem? (i := 361) (by decide +kernel)⟩
theorem lw_p4 : lw_okq (⟨"DungeonBuilder", "recolored", "(I)I"⟩, 10) := ⟨⟨by decide +kernel, by decide +kernel⟩, List.mem_of_getElem? (i := 18) (by decide +kernel), List.mem_of_getElem? (i := 413) (by decide +kernel), List.mem_of_getElem? (i := 414) (by decide +kernel)⟩
theorem lw_p5 : lw_okq (⟨"DungeonBuilder$Dungeon", "dropCorridorsOf", "(I)V"⟩, 12) := ⟨⟨by decide +kernel, by decide +kernel⟩, List.mem_of_getElem? (i := 26) (by decide +kernel), List.mem_of_getElem? (i := 441) (by decide +kernel), List.mem_of_getElem? (i := 442) (by decide +kernel)⟩
theorem lw_p6 : lw_okq (⟨"DungeonBuilder$Architect", "addPart", "(IIII)I"⟩, 12) := ⟨⟨by decide +kernel, by decide +kernel⟩, List.mem_of_getElem? (i := 166) (by decide +kernel), List.mem_of_getElem? (i := 468) (by decide +kernel), List.mem_of_getElem? (i := 469) (by decide +kernel)⟩
theorem lw_p7 : lw_okq (⟨"DungeonBuilder$Architect", "cut", "(I)I"⟩, 12) := ⟨⟨by decide +kernel, by decide +kernel⟩, List.mem_of_getElem? (i := 166) (by decide +kernel), List.mem_of_getElem? (i := 475) (by decide +kernel), List.mem_of_getElem? (i := 476) (by decide +kernel)⟩
theorem lw_p8 : lw_okq (⟨"DungeonBuilder$Architect", "draw", "(I)I"⟩, 12) := ⟨⟨by decide +kernel, by decide +kernel⟩, List.mem_of_getElem? (i := 166) (by decide +kernel), List.mem_of_getElem? (i := 479) (by decide +kernel), List.mem_of_getElem? (i := 480) (by decide +kernel)⟩
theorem lw_p9 : lw_okq (⟨"DungeonBuilder$Architect", "noteUncut", "(I)V"⟩, 12) := ⟨⟨by decide +kernel, by decide +kernel⟩, List.mem_of_getElem? (i := 166) (by decide +kernel), List.mem_of_getElem? (i := 484) (by decide +kernel), List.mem_of_getElem? (i := 485) (by decide +kernel)⟩
theorem lw_p10 : lw_okq (⟨"DungeonBuilder$Architect", "noteCut", "(I)V"⟩, 12) := ⟨⟨by decide +kernel, by decide +kernel⟩, List.mem_of_getElem? (i := 166) (by decide +kernel), List.mem_of_getElem? (i := 488) (by decide +kernel), List.mem_of_getElem? (i := 489) (by decide +kernel)⟩
theorem lw_p11 : lw_okq (⟨"DungeonBuilder$Architect", "drawRoom", "(LDungeonBuilder$Dungeon;I)V"⟩, 12) := ⟨⟨by decide +kernel, by decide +kernel⟩, List.mem_of_getElem? (i := 166) (by decide +kernel), List.mem_of_getElem? (i := 492) (by decide +kernel), List.mem_of_getElem? (i := 493) (by decide +kernel)⟩
theorem lw_p12 : lw_okq (⟨"DungeonBuilder$Architect", "join", "(LDungeonBuilder$Dungeon;II)V"⟩, 12) := ⟨⟨by decide +kernel, by decide +kernel⟩, List.mem_of_getElem? (i := 166) (by decide +kernel), List.mem_of_getElem? (i := 498) (by decide +kernel), List.mem_of_getElem? (i := 499) (by decide +kernel)⟩
theorem lw_p13 : lw_okq (⟨"DungeonBuilder$Locksmith", "bestRoom", "(LDungeonBuilder$Dungeon;I)I"⟩, 1) := ⟨⟨by decide +kernel, by decide +kernel⟩, List.mem_of_getElem? (i := 209) (by decide +kernel), List.mem_of_getElem? (i := 575) (by decide +kernel), List.mem_of_getElem? (i := 576) (by decide +kernel)⟩
theorem lw_p14 : lw_okq (⟨"DungeonBuilder$Script", "put", "(I)V"⟩, 8) := ⟨⟨by decide +kernel, by decide +kernel⟩, List.mem_of_getElem? (i := 130) (by decide +kernel), List.mem_of_getElem? (i := 603) (by decide +kernel), List.mem_of_getElem? (i := 604) (by decide +kernel)⟩
theorem lw_p15 : lw_okq (⟨"DungeonBuilder$Script", "parseCommands", "()Z"⟩, 8) := ⟨⟨by decide +kernel, by decide +kernel⟩, List.mem_of_getElem? (i := 130) (by decide +kernel), List.mem_of_getElem? (i := 615) (by decide +kernel), List.mem_of_getElem? (i := 616) (by decide +kernel)⟩
def lw_privs_1 : List (MethodName × Nat) := [(⟨"DungeonBuilder$Dungeon", "takeRoom", "(ILDungeonBuilder$Dungeon;I)V"⟩, 12), (⟨"DungeonBuilder$Dungeon", "takeCorridor", "(ILDungeonBuilder$Dungeon;I)V"⟩, 12), (⟨"DungeonBuilder$Dungeon", "meetsRoom", "(IIII)Z"⟩, 12), (⟨"DungeonBuilder", "settled", "(I)I"⟩, 10), (⟨"DungeonBuilder", "recolored", "(I)I"⟩, 10), (⟨"DungeonBuilder$Dungeon", "dropCorridorsOf", "(I)V"⟩, 12), (⟨"DungeonBuilder$Architect", "addPart", "(IIII)I"⟩, 12), (⟨"DungeonBuilder$Architect", "cut", "(I)I"⟩, 12), (⟨"DungeonBuilder$Architect", "draw", "(I)I"⟩, 12), (⟨"DungeonBuilder$Architect", "noteUncut", "(I)V"⟩, 12), (⟨"DungeonBuilder$Architect", "noteCut", "(I)V"⟩, 12), (⟨"DungeonBuilder$Architect", "drawRoom", "(LDungeonBuilder$Dungeon;I)V"⟩, 12), (⟨"DungeonBuilder$Architect", "join", "(LDungeonBuilder$Dungeon;II)V"⟩, 12), (⟨"DungeonBuilder$Locksmith", "bestRoom", "(LDungeonBuilder$Dungeon;I)I"⟩, 1), (⟨"DungeonBuilder$Script", "put", "(I)V"⟩, 8), (⟨"DungeonBuilder$Script", "parseCommands", "()Z"⟩, 8)]
theorem lw_r1 : ∀ q ∈ lw_privs_1, lw_okq q := List.forall_mem_cons.mpr ⟨lw_p0, List.forall_mem_cons.mpr ⟨lw_p1, List.forall_mem_cons.mpr ⟨lw_p2, List.forall_mem_cons.mpr ⟨lw_p3, List.forall_mem_cons.mpr ⟨lw_p4, List.forall_mem_cons.mpr ⟨lw_p5, List.forall_mem_cons.mpr ⟨lw_p6, List.forall_mem_cons.mpr ⟨lw_p7, List.forall_mem_cons.mpr ⟨lw_p8, List.forall_mem_cons.mpr ⟨lw_p9, List.forall_mem_cons.mpr ⟨lw_p10, List.forall_mem_cons.mpr ⟨lw_p11, List.forall_mem_cons.mpr ⟨lw_p12, List.forall_mem_cons.mpr ⟨lw_p13, List.forall_mem_cons.mpr ⟨lw_p14, List.forall_mem_cons.mpr ⟨lw_p15, fun _ h => absurd h List.not_mem_nil⟩⟩⟩⟩⟩⟩⟩⟩⟩⟩⟩⟩⟩⟩⟩⟩
theorem lw_p16 : lw_okq (⟨"DungeonBuilder$Script", "skip", "(I)Z"⟩, 8) := ⟨⟨by decide +kernel, by decide +kernel⟩, List.mem_of_getElem? (i := 130) (by decide +kernel), List.mem_of_getElem? (i := 619) (by decide +kernel), List.mem_of_getElem? (i := 620) (by decide +kernel)⟩
theorem lw_p17 : lw_okq (⟨"DungeonBuilder$Script", "signAt", "(I)I"⟩, 8) := ⟨⟨by decide +kernel, by decide +kernel⟩, List.mem_of_getElem? (i := 130) (by decide +kernel), List.mem_of_getElem? (i := 623) (by decide +kernel), List.mem_of_getElem? (i := 624) (by decide +kernel)⟩
theorem lw_p18 : lw_okq (⟨"DungeonBuilder$Script", "parseCommand", "(I)Z"⟩, 8) := ⟨⟨by decide +kernel, by decide +kernel⟩, List.mem_of_getElem? (i := 130) (by decide +kernel), List.mem_of_getElem? (i := 627) (by decide +kernel), List.mem_of_getElem? (i := 628) (by decide +kernel)⟩
theorem lw_p19 : lw_okq (⟨"DungeonBuilder$Script", "parseNumber", "()I"⟩, 8) := ⟨⟨by decide +kernel, by decide +kernel⟩, List.mem_of_getElem? (i := 130) (by decide +kernel), List.mem_of_getElem? (i := 637) (by decide +kernel), List.mem_of_getElem? (i := 638) (by decide +kernel)⟩
theorem lw_p20 : lw_okq (⟨"DungeonBuilder$FloorPlan", "drawRoom", "(LDungeonBuilder$Dungeon;I)V"⟩, 6) := ⟨⟨by decide +kernel, by decide +kernel⟩, List.mem_of_getElem? (i := 273) (by decide +kernel), List.mem_of_getElem? (i := 694) (by decide +kernel), List.mem_of_getElem? (i := 695) (by decide +kernel)⟩
theorem lw_p21 : lw_okq (⟨"DungeonBuilder$FloorPlan", "drawCorridor", "(LDungeonBuilder$Dungeon;I)V"⟩, 6) := ⟨⟨by decide +kernel, by decide +kernel⟩, List.mem_of_getElem? (i := 273) (by decide +kernel), List.mem_of_getElem? (i := 701) (by decide +kernel), List.mem_of_getElem? (i := 702) (by decide +kernel)⟩
theorem lw_p22 : lw_okq (⟨"DungeonBuilder$FloorPlan", "enter", "(II)V"⟩, 6) := ⟨⟨by decide +kernel, by decide +kernel⟩, List.mem_of_getElem? (i := 273) (by decide +kernel), List.mem_of_getElem? (i := 795) (by decide +kernel), List.mem_of_getElem? (i := 796) (by decide +kernel)⟩
theorem lw_p23 : lw_okq (⟨"DungeonBuilder$Explorer", "easiest", "(LDungeonBuilder$Dungeon;I)I"⟩, 5) := ⟨⟨by decide +kernel, by decide +kernel⟩, List.mem_of_getElem? (i := 219) (by decide +kernel), List.mem_of_getElem? (i := 814) (by decide +kernel), List.mem_of_getElem? (i := 815) (by decide +kernel)⟩
theorem lw_p24 : lw_okq (⟨"DungeonBuilder$Walks", "addLine", "(LDungeonBuilder$Dungeon;II)V"⟩, 7) := ⟨⟨by decide +kernel, by decide +kernel⟩, List.mem_of_getElem? (i := 245) (by decide +kernel), List.mem_of_getElem? (i := 878) (by decide +kernel), List.mem_of_getElem? (i := 879) (by decide +kernel)⟩
theorem lw_p25 : lw_okq (⟨"DungeonBuilder$Walks", "goOn", "(LDungeonBuilder$Dungeon;I)V"⟩, 7) := ⟨⟨by decide +kernel, by decide +kernel⟩, List.mem_of_getElem? (i := 245) (by decide +kernel), List.mem_of_getElem? (i := 883) (by decide +kernel), List.mem_of_getElem? (i := 884) (by decide +kernel)⟩
theorem lw_p26 : lw_okq (⟨"DungeonBuilderModel", "remembers", "()V"⟩, 25) := ⟨⟨by decide +kernel, by decide +kernel⟩, List.mem_of_getElem? (i := 951) (by decide +kernel), List.mem_of_getElem? (i := 1039) (by decide +kernel), List.mem_of_getElem? (i := 1040) (by decide +kernel)⟩
theorem lw_p27 : lw_okq (⟨"DungeonBuilderModel", "addsRoom", "(IIII)I"⟩, 25) := ⟨⟨by decide +kernel, by decide +kernel⟩, List.mem_of_getElem? (i := 951) (by decide +kernel), List.mem_of_getElem? (i := 1043) (by decide +kernel), List.mem_of_getElem? (i := 1044) (by decide +kernel)⟩
theorem lw_p28 : lw_okq (⟨"DungeonBuilderModel", "roomAt", "(II)I"⟩, 25) := ⟨⟨by decide +kernel, by decide +kernel⟩, List.mem_of_getElem? (i := 951) (by decide +kernel), List.mem_of_getElem? (i := 1050) (by decide +kernel), List.mem_of_getElem? (i := 1051) (by decide +kernel)⟩
theorem lw_p29 : lw_okq (⟨"DungeonBuilderModel", "of", "(II)I"⟩, 25) := ⟨⟨by decide +kernel, by decide +kernel⟩, List.mem_of_getElem? (i := 951) (by decide +kernel), List.mem_of_getElem? (i := 1054) (by decide +kernel), List.mem_of_getElem? (i := 1055) (by decide +kernel)⟩
theorem lw_p30 : lw_okq (⟨"DungeonBuilderModel", "kept", "(I)I"⟩, 25) := ⟨⟨by decide +kernel, by decide +kernel⟩, List.mem_of_getElem? (i := 951) (by decide +kernel), List.mem_of_getElem? (i := 1058) (by decide +kernel), List.mem_of_getElem? (i := 1059) (by decide +kernel)⟩
theorem lw_p31 : lw_okq (⟨"DungeonBuilderModel", "changes", "()V"⟩, 25) := ⟨⟨by decide +kernel, by decide +kernel⟩, List.mem_of_getElem? (i := 951) (by decide +kernel), List.mem_of_getElem? (i := 1062) (by decide +kernel), List.mem_of_getElem? (i := 1063) (by decide +kernel)⟩
def lw_privs_2 : List (MethodName × Nat) := [(⟨"DungeonBuilder$Script", "skip", "(I)Z"⟩, 8), (⟨"DungeonBuilder$Script", "signAt", "(I)I"⟩, 8), (⟨"DungeonBuilder$Script", "parseCommand", "(I)Z"⟩, 8), (⟨"DungeonBuilder$Script", "parseNumber", "()I"⟩, 8), (⟨"DungeonBuilder$FloorPlan", "drawRoom", "(LDungeonBuilder$Dungeon;I)V"⟩, 6), (⟨"DungeonBuilder$FloorPlan", "drawCorridor", "(LDungeonBuilder$Dungeon;I)V"⟩, 6), (⟨"DungeonBuilder$FloorPlan", "enter", "(II)V"⟩, 6), (⟨"DungeonBuilder$Explorer", "easiest", "(LDungeonBuilder$Dungeon;I)I"⟩, 5), (⟨"DungeonBuilder$Walks", "addLine", "(LDungeonBuilder$Dungeon;II)V"⟩, 7), (⟨"DungeonBuilder$Walks", "goOn", "(LDungeonBuilder$Dungeon;I)V"⟩, 7), (⟨"DungeonBuilderModel", "remembers", "()V"⟩, 25), (⟨"DungeonBuilderModel", "addsRoom", "(IIII)I"⟩, 25), (⟨"DungeonBuilderModel", "roomAt", "(II)I"⟩, 25), (⟨"DungeonBuilderModel", "of", "(II)I"⟩, 25), (⟨"DungeonBuilderModel", "kept", "(I)I"⟩, 25), (⟨"DungeonBuilderModel", "changes", "()V"⟩, 25)]
theorem lw_r2 : ∀ q ∈ lw_privs_2, lw_okq q := List.forall_mem_cons.mpr ⟨lw_p16, List.forall_mem_cons.mpr ⟨lw_p17, List.forall_mem_cons.mpr ⟨lw_p18, List.forall_mem_cons.mpr ⟨lw_p19, List.forall_mem_cons.mpr ⟨lw_p20, List.forall_mem_cons.mpr ⟨lw_p21, List.forall_mem_cons.mpr ⟨lw_p22, List.forall_mem_cons.mpr ⟨lw_p23, List.forall_mem_cons.mpr ⟨lw_p24, List.forall_mem_cons.mpr ⟨lw_p25, List.forall_mem_cons.mpr ⟨lw_p26, List.forall_mem_cons.mpr ⟨lw_p27, List.forall_mem_cons.mpr ⟨lw_p28, List.forall_mem_cons.mpr ⟨lw_p29, List.forall_mem_cons.mpr ⟨lw_p30, List.forall_mem_cons.mpr ⟨lw_p31, fun _ h => absurd h List.not_mem_nil⟩⟩⟩⟩⟩⟩⟩⟩⟩⟩⟩⟩⟩⟩⟩⟩
theorem lw_p32 : lw_okq (⟨"DungeonBuilderModel", "addsCorridor", "(II)I"⟩, 25) := ⟨⟨by decide +kernel, by decide +kernel⟩, List.mem_of_getElem? (i := 951) (by decide +kernel), List.mem_of_getElem? (i := 1070) (by decide +kernel), List.mem_of_getElem? (i := 1071) (by decide +kernel)⟩
theorem lw_p33 : lw_okq (⟨"DungeonBuilderModel", "isRoom", "(I)Z"⟩, 25) := ⟨⟨by decide +kernel, by decide +kernel⟩, List.mem_of_getElem? (i := 951) (by decide +kernel), List.mem_of_getElem? (i := 1074) (by decide +kernel), List.mem_of_getElem? (i := 1075) (by decide +kernel)⟩
theorem lw_p34 : lw_okq (⟨"DungeonBuilderModel", "wayBetween", "(II)I"⟩, 25) := ⟨⟨by decide +kernel, by decide +kernel⟩, List.mem_of_getElem? (i := 951) (by decide +kernel), List.mem_of_getElem? (i := 1078) (by decide +kernel), List.mem_of_getElem? (i := 1079) (by decide +kernel)⟩
theorem lw_p35 : lw_okq (⟨"DungeonBuilderModel", "way", "(II)I"⟩, 25) := ⟨⟨by decide +kernel, by decide +kernel⟩, List.mem_of_getElem? (i := 951) (by decide +kernel), List.mem_of_getElem? (i := 1082) (by decide +kernel), List.mem_of_getElem? (i := 1083) (by decide +kernel)⟩
theorem lw_p36 : lw_okq (⟨"DungeonBuilderModel", "setsLock", "(II)I"⟩, 25) := ⟨⟨by decide +kernel, by decide +kernel⟩, List.mem_of_getElem? (i := 951) (by decide +kernel), List.mem_of_getElem? (i := 1090) (by decide +kernel), List.mem_of_getElem? (i := 1091) (by decide +kernel)⟩
theorem lw_p37 : lw_okq (⟨"DungeonBuilderModel", "isCorridor", "(I)Z"⟩, 25) := ⟨⟨by decide +kernel, by decide +kernel⟩, List.mem_of_getElem? (i := 951) (by decide +kernel), List.mem_of_getElem? (i := 1094) (by decide +kernel), List.mem_of_getElem? (i := 1095) (by decide +kernel)⟩
theorem lw_p38 : lw_okq (⟨"DungeonBuilderModel", "setsKey", "(II)I"⟩, 25) := ⟨⟨by decide +kernel, by decide +kernel⟩, List.mem_of_getElem? (i := 951) (by decide +kernel), List.mem_of_getElem? (i := 1105) (by decide +kernel), List.mem_of_getElem? (i := 1106) (by decide +kernel)⟩
theorem lw_p39 : lw_okq (⟨"DungeonBuilderModel", "setsEntrance", "(I)I"⟩, 25) := ⟨⟨by decide +kernel, by decide +kernel⟩, List.mem_of_getElem? (i := 951) (by decide +kernel), List.mem_of_getElem? (i := 1113) (by decide +kernel), List.mem_of_getElem? (i := 1114) (by decide +kernel)⟩
theorem lw_p40 : lw_okq (⟨"DungeonBuilderModel", "cutsCorridor", "(I)V"⟩, 25) := ⟨⟨by decide +kernel, by decide +kernel⟩, List.mem_of_getElem? (i := 951) (by decide +kernel), List.mem_of_getElem? (i := 1121) (by decide +kernel), List.mem_of_getElem? (i := 1122) (by decide +kernel)⟩
theorem lw_p41 : lw_okq (⟨"DungeonBuilderModel", "drawn", "(I)I"⟩, 25) := ⟨⟨by decide +kernel, by decide +kernel⟩, List.mem_of_getElem? (i := 951) (by decide +kernel), List.mem_of_getElem? (i := 1136) (by decide +kernel), List.mem_of_getElem? (i := 1137) (by decide +kernel)⟩
theorem lw_p42 : lw_okq (⟨"DungeonBuilderModel", "joins", "(III)V"⟩, 25) := ⟨⟨by decide +kernel, by decide +kernel⟩, List.mem_of_getElem? (i := 951) (by decide +kernel), List.mem_of_getElem? (i := 1144) (by decide +kernel), List.mem_of_getElem? (i := 1145) (by decide +kernel)⟩
theorem lw_p43 : lw_okq (⟨"DungeonBuilderModel", "distance", "(II)I"⟩, 25) := ⟨⟨by decide +kernel, by decide +kernel⟩, List.mem_of_getElem? (i := 951) (by decide +kernel), List.mem_of_getElem? (i := 1148) (by decide +kernel), List.mem_of_getElem? (i := 1149) (by decide +kernel)⟩
theorem lw_p44 : lw_okq (⟨"DungeonBuilderModel", "columnOf", "(I)I"⟩, 25) := ⟨⟨by decide +kernel, by decide +kernel⟩, List.mem_of_getElem? (i := 951) (by decide +kernel), List.mem_of_getElem? (i := 1152) (by decide +kernel), List.mem_of_getElem? (i := 1153) (by decide +kernel)⟩
theorem lw_p45 : lw_okq (⟨"DungeonBuilderModel", "rowOf", "(I)I"⟩, 25) := ⟨⟨by decide +kernel, by decide +kernel⟩, List.mem_of_getElem? (i := 951) (by decide +kernel), List.mem_of_getElem? (i := 1159) (by decide +kernel), List.mem_of_getElem? (i := 1160) (by decide +kernel)⟩
theorem lw_p46 : lw_okq (⟨"DungeonBuilderModel", "farSide", "(I)I"⟩, 25) := ⟨⟨by decide +kernel, by decide +kernel⟩, List.mem_of_getElem? (i := 951) (by decide +kernel), List.mem_of_getElem? (i := 1171) (by decide +kernel), List.mem_of_getElem? (i := 1172) (by decide +kernel)⟩
theorem lw_p47 : lw_okq (⟨"DungeonBuilderModel", "tellDepths", "(II)V"⟩, 25) := ⟨⟨by decide +kernel, by decide +kernel⟩, List.mem_of_getElem? (i := 951) (by decide +kernel), List.mem_of_getElem? (i := 1175) (by decide +kernel), List.mem_of_getElem? (i := 1176) (by decide +kernel)⟩
def lw_privs_3 : List (MethodName × Nat) := [(⟨"DungeonBuilderModel", "addsCorridor", "(II)I"⟩, 25), (⟨"DungeonBuilderModel", "isRoom", "(I)Z"⟩, 25), (⟨"DungeonBuilderModel", "wayBetween", "(II)I"⟩, 25), (⟨"DungeonBuilderModel", "way", "(II)I"⟩, 25), (⟨"DungeonBuilderModel", "setsLock", "(II)I"⟩, 25), (⟨"DungeonBuilderModel", "isCorridor", "(I)Z"⟩, 25), (⟨"DungeonBuilderModel", "setsKey", "(II)I"⟩, 25), (⟨"DungeonBuilderModel", "setsEntrance", "(I)I"⟩, 25), (⟨"DungeonBuilderModel", "cutsCorridor", "(I)V"⟩, 25), (⟨"DungeonBuilderModel", "drawn", "(I)I"⟩, 25), (⟨"DungeonBuilderModel", "joins", "(III)V"⟩, 25), (⟨"DungeonBuilderModel", "distance", "(II)I"⟩, 25), (⟨"DungeonBuilderModel", "columnOf", "(I)I"⟩, 25), (⟨"DungeonBuilderModel", "rowOf", "(I)I"⟩, 25), (⟨"DungeonBuilderModel", "farSide", "(I)I"⟩, 25), (⟨"DungeonBuilderModel", "tellDepths", "(II)V"⟩, 25)]
theorem lw_r3 : ∀ q ∈ lw_privs_3, lw_okq q := List.forall_mem_cons.mpr ⟨lw_p32, List.forall_mem_cons.mpr ⟨lw_p33, List.forall_mem_cons.mpr ⟨lw_p34, List.forall_mem_cons.mpr ⟨lw_p35, List.forall_mem_cons.mpr ⟨lw_p36, List.forall_mem_cons.mpr ⟨lw_p37, List.forall_mem_cons.mpr ⟨lw_p38, List.forall_mem_cons.mpr ⟨lw_p39, List.forall_mem_cons.mpr ⟨lw_p40, List.forall_mem_cons.mpr ⟨lw_p41, List.forall_mem_cons.mpr ⟨lw_p42, List.forall_mem_cons.mpr ⟨lw_p43, List.forall_mem_cons.mpr ⟨lw_p44, List.forall_mem_cons.mpr ⟨lw_p45, List.forall_mem_cons.mpr ⟨lw_p46, List.forall_mem_cons.mpr ⟨lw_p47, fun _ h => absurd h List.not_mem_nil⟩⟩⟩⟩⟩⟩⟩⟩⟩⟩⟩⟩⟩⟩⟩⟩
theorem lw_p48 : lw_okq (⟨"DungeonBuilderModel", "colorsUsed", "()I"⟩, 25) := ⟨⟨by decide +kernel, by decide +kernel⟩, List.mem_of_getElem? (i := 951) (by decide +kernel), List.mem_of_getElem? (i := 1179) (by decide +kernel), List.mem_of_getElem? (i := 1180) (by decide +kernel)⟩
theorem lw_p49 : lw_okq (⟨"DungeonBuilderModel", "tellVisit", "(III)V"⟩, 25) := ⟨⟨by decide +kernel, by decide +kernel⟩, List.mem_of_getElem? (i := 951) (by decide +kernel), List.mem_of_getElem? (i := 1183) (by decide +kernel), List.mem_of_getElem? (i := 1184) (by decide +kernel)⟩
theorem lw_p50 : lw_okq (⟨"DungeonBuilderModel", "goesTo", "(II)V"⟩, 25) := ⟨⟨by decide +kernel, by decide +kernel⟩, List.mem_of_getElem? (i := 951) (by decide +kernel), List.mem_of_getElem? (i := 1187) (by decide +kernel), List.mem_of_getElem? (i := 1188) (by decide +kernel)⟩
theorem lw_p51 : lw_okq (⟨"DungeonBuilderModel", "canGo", "(III)Z"⟩, 25) := ⟨⟨by decide +kernel, by decide +kernel⟩, List.mem_of_getElem? (i := 951) (by decide +kernel), List.mem_of_getElem? (i := 1191) (by decide +kernel), List.mem_of_getElem? (i := 1192) (by decide +kernel)⟩
theorem lw_p52 : lw_okq (⟨"DungeonBuilderModel", "difficultyOf", "(I)I"⟩, 25) := ⟨⟨by decide +kernel, by decide +kernel⟩, List.mem_of_getElem? (i := 951) (by decide +kernel), List.mem_of_getElem? (i := 1195) (by decide +kernel), List.mem_of_getElem? (i := 1196) (by decide +kernel)⟩
theorem lw_p53 : lw_okq (⟨"DungeonBuilderModel", "depthOf", "(I)I"⟩, 25) := ⟨⟨by decide +kernel, by decide +kernel⟩, List.mem_of_getElem? (i := 951) (by decide +kernel), List.mem_of_getElem? (i := 1199) (by decide +kernel), List.mem_of_getElem? (i := 1200) (by decide +kernel)⟩
theorem lw_p54 : lw_okq (⟨"DungeonBuilderModel", "degreeOf", "(I)I"⟩, 25) := ⟨⟨by decide +kernel, by decide +kernel⟩, List.mem_of_getElem? (i := 951) (by decide +kernel), List.mem_of_getElem? (i := 1203) (by decide +kernel), List.mem_of_getElem? (i := 1204) (by decide +kernel)⟩
theorem lw_p55 : lw_okq (⟨"DungeonBuilderModel", "readsCommand", "()Z"⟩, 25) := ⟨⟨by decide +kernel, by decide +kernel⟩, List.mem_of_getElem? (i := 951) (by decide +kernel), List.mem_of_getElem? (i := 1219) (by decide +kernel), List.mem_of_getElem? (i := 1220) (by decide +kernel)⟩
theorem lw_p56 : lw_okq (⟨"DungeonBuilderModel", "eats", "(I)Z"⟩, 25) := ⟨⟨by decide +kernel, by decide +kernel⟩, List.mem_of_getElem? (i := 951) (by decide +kernel), List.mem_of_getElem? (i := 1226) (by decide +kernel), List.mem_of_getElem? (i := 1227) (by decide +kernel)⟩
theorem lw_p57 : lw_okq (⟨"DungeonBuilderModel", "readsNumber", "(I)Z"⟩, 25) := ⟨⟨by decide +kernel, by decide +kernel⟩, List.mem_of_getElem? (i := 951) (by decide +kernel), List.mem_of_getElem? (i := 1230) (by decide +kernel), List.mem_of_getElem? (i := 1231) (by decide +kernel)⟩
theorem lw_p58 : lw_okq (⟨"DungeonBuilderModel", "does", "()I"⟩, 25) := ⟨⟨by decide +kernel, by decide +kernel⟩, List.mem_of_getElem? (i := 951) (by decide +kernel), List.mem_of_getElem? (i := 1234) (by decide +kernel), List.mem_of_getElem? (i := 1235) (by decide +kernel)⟩
theorem lw_p59 : lw_okq (⟨"DungeonBuilderModel", "corridorAt", "(IIZ)I"⟩, 25) := ⟨⟨by decide +kernel, by decide +kernel⟩, List.mem_of_getElem? (i := 951) (by decide +kernel), List.mem_of_getElem? (i := 1253) (by decide +kernel), List.mem_of_getElem? (i := 1254) (by decide +kernel)⟩
theorem lw_p60 : lw_okq (⟨"DungeonBuilderModel", "has", "(III)Z"⟩, 25) := ⟨⟨by decide +kernel, by decide +kernel⟩, List.mem_of_getElem? (i := 951) (by decide +kernel), List.mem_of_getElem? (i := 1257) (by decide +kernel), List.mem_of_getElem? (i := 1258) (by decide +kernel)⟩
theorem lw_p61 : lw_okq (⟨"DungeonBuilderModel", "isOpen", "(I)Z"⟩, 25) := ⟨⟨by decide +kernel, by decide +kernel⟩, List.mem_of_getElem? (i := 951) (by decide +kernel), List.mem_of_getElem? (i := 1272) (by decide +kernel), List.mem_of_getElem? (i := 1273) (by decide +kernel)⟩
theorem lw_p62 : lw_okq (⟨"DungeonBuilderModel", "around", "(I)I"⟩, 25) := ⟨⟨by decide +kernel, by decide +kernel⟩, List.mem_of_getElem? (i := 951) (by decide +kernel), List.mem_of_getElem? (i := 1276) (by decide +kernel), List.mem_of_getElem? (i := 1277) (by decide +kernel)⟩
theorem lw_p63 : lw_okq (⟨"DungeonBuilderModel", "groups", "(I)I"⟩, 25) := ⟨⟨by decide +kernel, by decide +kernel⟩, List.mem_of_getElem? (i := 951) (by decide +kernel), List.mem_of_getElem? (i := 1284) (by decide +kernel), List.mem_of_getElem? (i := 1285) (by decide +kernel)⟩
def lw_privs_4 : List (MethodName × Nat) := [(⟨"DungeonBuilderModel", "colorsUsed", "()I"⟩, 25), (⟨"DungeonBuilderModel", "tellVisit", "(III)V"⟩, 25), (⟨"DungeonBuilderModel", "goesTo", "(II)V"⟩, 25), (⟨"DungeonBuilderModel", "canGo", "(III)Z"⟩, 25), (⟨"DungeonBuilderModel", "difficultyOf", "(I)I"⟩, 25), (⟨"DungeonBuilderModel", "depthOf", "(I)I"⟩, 25), (⟨"DungeonBuilderModel", "degreeOf", "(I)I"⟩, 25), (⟨"DungeonBuilderModel", "readsCommand", "()Z"⟩, 25), (⟨"DungeonBuilderModel", "eats", "(I)Z"⟩, 25), (⟨"DungeonBuilderModel", "readsNumber", "(I)Z"⟩, 25), (⟨"DungeonBuilderModel", "does", "()I"⟩, 25), (⟨"DungeonBuilderModel", "corridorAt", "(IIZ)I"⟩, 25), (⟨"DungeonBuilderModel", "has", "(III)Z"⟩, 25), (⟨"DungeonBuilderModel", "isOpen", "(I)Z"⟩, 25), (⟨"DungeonBuilderModel", "around", "(I)I"⟩, 25), (⟨"DungeonBuilderModel", "groups", "(I)I"⟩, 25)]
theorem lw_r4 : ∀ q ∈ lw_privs_4, lw_okq q := List.forall_mem_cons.mpr ⟨lw_p48, List.forall_mem_cons.mpr ⟨lw_p49, List.forall_mem_cons.mpr ⟨lw_p50, List.forall_mem_cons.mpr ⟨lw_p51, List.forall_mem_cons.mpr ⟨lw_p52, List.forall_mem_cons.mpr ⟨lw_p53, List.forall_mem_cons.mpr ⟨lw_p54, List.forall_mem_cons.mpr ⟨lw_p55, List.forall_mem_cons.mpr ⟨lw_p56, List.forall_mem_cons.mpr ⟨lw_p57, List.forall_mem_cons.mpr ⟨lw_p58, List.forall_mem_cons.mpr ⟨lw_p59, List.forall_mem_cons.mpr ⟨lw_p60, List.forall_mem_cons.mpr ⟨lw_p61, List.forall_mem_cons.mpr ⟨lw_p62, List.forall_mem_cons.mpr ⟨lw_p63, fun _ h => absurd h List.not_mem_nil⟩⟩⟩⟩⟩⟩⟩⟩⟩⟩⟩⟩⟩⟩⟩⟩
theorem lw_p64 : lw_okq (⟨"DungeonBuilderModel", "cellsOf", "(I)I"⟩, 25) := ⟨⟨by decide +kernel, by decide +kernel⟩, List.mem_of_getElem? (i := 951) (by decide +kernel), List.mem_of_getElem? (i := 1296) (by decide +kernel), List.mem_of_getElem? (i := 1297) (by decide +kernel)⟩
theorem lw_p65 : lw_okq (⟨"DungeonBuilderModel", "tell", "()V"⟩, 25) := ⟨⟨by decide +kernel, by decide +kernel⟩, List.mem_of_getElem? (i := 951) (by decide +kernel), List.mem_of_getElem? (i := 1320) (by decide +kernel), List.mem_of_getElem? (i := 1321) (by decide +kernel)⟩
theorem lw_p66 : lw_okq (⟨"DungeonBuilderModel", "tellLeft", "(I)V"⟩, 25) := ⟨⟨by decide +kernel, by decide +kernel⟩, List.mem_of_getElem? (i := 951) (by decide +kernel), List.mem_of_getElem? (i := 1352) (by decide +kernel), List.mem_of_getElem? (i := 1353) (by decide +kernel)⟩
theorem lw_p67 : lw_okq (⟨"DungeonBuilderModel", "through", "(II)I"⟩, 25) := ⟨⟨by decide +kernel, by decide +kernel⟩, List.mem_of_getElem? (i := 951) (by decide +kernel), List.mem_of_getElem? (i := 1356) (by decide +kernel), List.mem_of_getElem? (i := 1357) (by decide +kernel)⟩
theorem lw_p68 : lw_okq (⟨"DungeonBuilderModel", "keyBit", "(I)I"⟩, 25) := ⟨⟨by decide +kernel, by decide +kernel⟩, List.mem_of_getElem? (i := 951) (by decide +kernel), List.mem_of_getElem? (i := 1360) (by decide +kernel), List.mem_of_getElem? (i := 1361) (by decide +kernel)⟩
theorem lw_p69 : lw_okq (⟨"DungeonBuilderModel", "begin", "()I"⟩, 25) := ⟨⟨by decide +kernel, by decide +kernel⟩, List.mem_of_getElem? (i := 951) (by decide +kernel), List.mem_of_getElem? (i := 1364) (by decide +kernel), List.mem_of_getElem? (i := 1365) (by decide +kernel)⟩
theorem lw_p70 : lw_okq (⟨"DungeonBuilderModel", "after", "(II)I"⟩, 25) := ⟨⟨by decide +kernel, by decide +kernel⟩, List.mem_of_getElem? (i := 951) (by decide +kernel), List.mem_of_getElem? (i := 1372) (by decide +kernel), List.mem_of_getElem? (i := 1373) (by decide +kernel)⟩
def lw_privs_5 : List (MethodName × Nat) := [(⟨"DungeonBuilderModel", "cellsOf", "(I)I"⟩, 25), (⟨"DungeonBuilderModel", "tell", "()V"⟩, 25), (⟨"DungeonBuilderModel", "tellLeft", "(I)V"⟩, 25), (⟨"DungeonBuilderModel", "through", "(II)I"⟩, 25), (⟨"DungeonBuilderModel", "keyBit", "(I)I"⟩, 25), (⟨"DungeonBuilderModel", "begin", "()I"⟩, 25), (⟨"DungeonBuilderModel", "after", "(II)I"⟩, 25)]
theorem lw_r5 : ∀ q ∈ lw_privs_5, lw_okq q := List.forall_mem_cons.mpr ⟨lw_p64, List.forall_mem_cons.mpr ⟨lw_p65, List.forall_mem_cons.mpr ⟨lw_p66, List.forall_mem_cons.mpr ⟨lw_p67, List.forall_mem_cons.mpr ⟨lw_p68, List.forall_mem_cons.mpr ⟨lw_p69, List.forall_mem_cons.mpr ⟨lw_p70, fun _ h => absurd h List.not_mem_nil⟩⟩⟩⟩⟩⟩⟩
def lw_privs : List (MethodName × Nat) := lw_privs_1 ++ (lw_privs_2 ++ (lw_privs_3 ++ (lw_privs_4 ++ (lw_privs_5))))
def lw_tbl : List Cond := k2_sels lw_privs ++ tables_1
theorem lw_privs_ok : ∀ q ∈ lw_privs, lw_okq q := by
  show ∀ q ∈ lw_privs_1 ++ (lw_privs_2 ++ (lw_privs_3 ++ (lw_privs_4 ++ (lw_privs_5)))), lw_okq q
  exact List.forall_mem_append.mpr ⟨lw_r1, List.forall_mem_append.mpr ⟨lw_r2, List.forall_mem_append.mpr ⟨lw_r3, List.forall_mem_append.mpr ⟨lw_r4, lw_r5⟩⟩⟩⟩
/-- the streams that the claim lets the run draw from -/
abbrev lw_cs : List Choice := [Jvm.Choice.named "NaN.bits"]
theorem lw_bits : nanBits ∈ lw_cs := by first | decide | exact List.mem_cons_self | simp [lw_cs, nanBits]
end
section
/-! names, fields and code of the claim's classes: by program out of the printed claim -/
def RX0 : String := "DungeonBuilder$Architect"
def TX0 : u_T := fun k => match k with
  | 0 => ("DungeonBuilder$Architect", "left", "[I", true)
  | 1 => ("DungeonBuilder$Architect", "top", "[I", true)
  | 2 => ("DungeonBuilder$Architect", "width", "[I", true)
  | 3 => ("DungeonBuilder$Architect", "height", "[I", true)
  | 4 => ("DungeonBuilder$Architect", "firstRoom", "[I", true)
  | 5 => ("DungeonBuilder$Architect", "endRoom", "[I", true)
  | 6 => ("DungeonBuilder$Architect", "uncut", "[I", true)
  | 7 => ("DungeonBuilder$Architect", "cutFirst", "[I", true)
  | 8 => ("DungeonBuilder$Architect", "parts", "I", false)
  | 9 => ("DungeonBuilder$Architect", "uncutParts", "I", false)
  | 10 => ("DungeonBuilder$Architect", "cutParts", "I", false)
  | _ => ("DungeonBuilder$Architect", "random", "I", false)
def tyX0 : Nat → FieldType := fun k => match k with
  | 0 => .array .int
  | 1 => .array .int
  | 2 => .array .int
  | 3 => .array .int
  | 4 => .array .int
  | 5 => .array .int
  | 6 => .array .int
  | 7 => .array .int
  | 8 => .int
  | 9 => .int
  | 10 => .int
  | _ => .int
def RX1 : String := "DungeonBuilder$Dungeon"
def TX1 : u_T := fun k => match k with
  | 0 => ("DungeonBuilder$Dungeon", "left", "[I", true)
  | 1 => ("DungeonBuilder$Dungeon", "top", "[I", true)
  | 2 => ("DungeonBuilder$Dungeon", "width", "[I", true)
  | 3 => ("DungeonBuilder$Dungeon", "height", "[I", true)
  | 4 => ("DungeonBuilder$Dungeon", "key", "[I", true)
  | 5 => ("DungeonBuilder$Dungeon", "low", "[I", true)
  | 6 => ("DungeonBuilder$Dungeon", "high", "[I", true)
  | 7 => ("DungeonBuilder$Dungeon", "lock", "[I", true)
  | 8 => ("DungeonBuilder$Dungeon", "rooms", "I", false)
  | 9 => ("DungeonBuilder$Dungeon", "corridors", "I", false)
  | 10 => ("DungeonBuilder$Dungeon", "start", "I", false)
  | _ => ("DungeonBuilder$Dungeon", "curve", "I", false)
def tyX1 : Nat → FieldType := fun k => match k with
  | 0 => .array .int
  | 1 => .array .int
  | 2 => .array .int
  | 3 => .array .int
  | 4 => .array .int
  | 5 => .array .int
  | 6 => .array .int
  | 7 => .array .int
  | 8 => .int
  | 9 => .int
  | 10 => .int
  | _ => .int
def RX2 : String := "DungeonBuilder$Explorer"
def TX2 : u_T := fun k => match k with
  | 0 => ("DungeonBuilder$Explorer", "depths", "[I", true)
  | 1 => ("DungeonBuilder$Explorer", "difficulties", "[I", true)
  | 2 => ("DungeonBuilder$Explorer", "order", "[I", true)
  | 3 => ("DungeonBuilder$Explorer", "distances", "[I", true)
  | _ => ("DungeonBuilder$Explorer", "visited", "I", false)
def tyX2 : Nat → FieldType := fun k => match k with
  | 0 => .array .int
  | 1 => .array .int
  | 2 => .array .int
  | 3 => .array .int
  | _ => .int
def RX3 : String := "DungeonBuilder$FloorPlan"
def TX3 : u_T := fun k => match k with
  | 0 => ("DungeonBuilder$FloorPlan", "roomOf", "[I", true)
  | 1 => ("DungeonBuilder$FloorPlan", "corridorOf", "[I", true)
  | 2 => ("DungeonBuilder$FloorPlan", "lockOf", "[I", true)
  | 3 => ("DungeonBuilder$FloorPlan", "distances", "[I", true)
  | 4 => ("DungeonBuilder$FloorPlan", "queue", "[I", true)
  | _ => ("DungeonBuilder$FloorPlan", "queued", "I", false)
def tyX3 : Nat → FieldType := fun k => match k with
  | 0 => .array .int
  | 1 => .array .int
  | 2 => .array .int
  | 3 => .array .int
  | 4 => .array .int
  | _ => .int
def RX4 : String := "DungeonBuilder$History"
def TX4 : u_T := fun k => match k with
  | 0 => ("DungeonBuilder$History", "before", "[LDungeonBuilder$Dungeon;", true)
  | 1 => ("DungeonBuilder$History", "next", "I", false)
  | _ => ("DungeonBuilder$History", "changes", "I", false)
def tyX4 : Nat → FieldType := fun k => match k with
  | 0 => .array (.object "DungeonBuilder$Dungeon")
  | 1 => .int
  | _ => .int
def RX5 : String := "DungeonBuilder$Locksmith"
def TX5 : u_T := fun k => match k with
  | _ => ("DungeonBuilder$Locksmith", "depths", "[I", true)
def tyX5 : Nat → FieldType := fun k => match k with
  | _ => .array .int
def RX6 : String := "DungeonBuilder$Reach"
def TX6 : u_T := fun k => match k with
  | _ => ("", "", "", false)
def tyX6 : Nat → FieldType := fun k => match k with
  | _ => .int
def RX7 : String := "DungeonBuilder$Script"
def TX7 : u_T := fun k => match k with
  | 0 => ("DungeonBuilder$Script", "signs", "[I", true)
  | 1 => ("DungeonBuilder$Script", "kinds", "[I", true)
  | 2 => ("DungeonBuilder$Script", "starts", "[I", true)
  | 3 => ("DungeonBuilder$Script", "numbers", "[[I", true)
  | 4 => ("DungeonBuilder$Script", "position", "I", false)
  | 5 => ("DungeonBuilder$Script", "length", "I", false)
  | 6 => ("DungeonBuilder$Script", "commands", "I", false)
  | _ => ("DungeonBuilder$Script", "fault", "I", false)
def tyX7 : Nat → FieldType := fun k => match k with
  | 0 => .array .int
  | 1 => .array .int
  | 2 => .array .int
  | 3 => .array (.array .int)
  | 4 => .int
  | 5 => .int
  | 6 => .int
  | _ => .int
def RX8 : String := "DungeonBuilder$Walks"
def TX8 : u_T := fun k => match k with
  | 0 => ("DungeonBuilder$Walks", "rooms", "[I", true)
  | 1 => ("DungeonBuilder$Walks", "keys", "[I", true)
  | 2 => ("DungeonBuilder$Walks", "origins", "[I", true)
  | 3 => ("DungeonBuilder$Walks", "lengths", "[I", true)
  | 4 => ("DungeonBuilder$Walks", "met", "[I", true)
  | 5 => ("DungeonBuilder$Walks", "firstLines", "[I", true)
  | _ => ("DungeonBuilder$Walks", "lines", "I", false)
def tyX8 : Nat → FieldType := fun k => match k with
  | 0 => .array .int
  | 1 => .array .int
  | 2 => .array .int
  | 3 => .array .int
  | 4 => .array .int
  | 5 => .array .int
  | _ => .int
def RX9 : String := "DungeonBuilder"
def TX9 : u_T := fun k => match k with
  | 0 => ("DungeonBuilder", "dungeon", "LDungeonBuilder$Dungeon;", true)
  | 1 => ("DungeonBuilder", "copy", "LDungeonBuilder$Dungeon;", true)
  | 2 => ("DungeonBuilder", "history", "LDungeonBuilder$History;", true)
  | 3 => ("DungeonBuilder", "script", "LDungeonBuilder$Script;", true)
  | 4 => ("DungeonBuilder", "architect", "LDungeonBuilder$Architect;", true)
  | 5 => ("DungeonBuilder", "locksmith", "LDungeonBuilder$Locksmith;", true)
  | 6 => ("DungeonBuilder", "explorer", "LDungeonBuilder$Explorer;", true)
  | 7 => ("DungeonBuilder", "walks", "LDungeonBuilder$Walks;", true)
  | 8 => ("DungeonBuilder", "plan", "LDungeonBuilder$FloorPlan;", true)
  | _ => ("DungeonBuilder", "saved", "Z", false)
def tyX9 : Nat → FieldType := fun k => match k with
  | 0 => .object "DungeonBuilder$Dungeon"
  | 1 => .object "DungeonBuilder$Dungeon"
  | 2 => .object "DungeonBuilder$History"
  | 3 => .object "DungeonBuilder$Script"
  | 4 => .object "DungeonBuilder$Architect"
  | 5 => .object "DungeonBuilder$Locksmith"
  | 6 => .object "DungeonBuilder$Explorer"
  | 7 => .object "DungeonBuilder$Walks"
  | 8 => .object "DungeonBuilder$FloorPlan"
  | _ => .boolean
def RX10 : String := "DungeonBuilderModel"
def TX10 : u_T := fun k => match k with
  | 0 => ("DungeonBuilderModel", "g", "[I", true)
  | 1 => ("DungeonBuilderModel", "history", "[I", true)
  | 2 => ("DungeonBuilderModel", "historyMany", "I", false)
  | 3 => ("DungeonBuilderModel", "saved", "[I", true)
  | 4 => ("DungeonBuilderModel", "hasSaved", "Z", false)
  | 5 => ("DungeonBuilderModel", "ahead", "[I", true)
  | 6 => ("DungeonBuilderModel", "random", "I", false)
  | 7 => ("DungeonBuilderModel", "leaves", "[I", true)
  | 8 => ("DungeonBuilderModel", "leafMany", "I", false)
  | 9 => ("DungeonBuilderModel", "cuts", "[I", true)
  | 10 => ("DungeonBuilderModel", "cutMany", "I", false)
  | 11 => ("DungeonBuilderModel", "depths", "[I", true)
  | 12 => ("DungeonBuilderModel", "visited", "[I", true)
  | 13 => ("DungeonBuilderModel", "visitMany", "I", false)
  | 14 => ("DungeonBuilderModel", "isVisited", "[Z", true)
  | 15 => ("DungeonBuilderModel", "keys", "I", false)
  | 16 => ("DungeonBuilderModel", "tape", "[C", true)
  | 17 => ("DungeonBuilderModel", "taped", "I", false)
  | 18 => ("DungeonBuilderModel", "wrongAt", "I", false)
  | 19 => ("DungeonBuilderModel", "at", "I", false)
  | 20 => ("DungeonBuilderModel", "letter", "I", false)
  | 21 => ("DungeonBuilderModel", "numbers", "[I", true)
  | 22 => ("DungeonBuilderModel", "far", "[I", true)
  | 23 => ("DungeonBuilderModel", "opens", "[Z", true)
  | _ => ("DungeonBuilderModel", "left", "[I", true)
def tyX10 : Nat → FieldType := fun k => match k with
  | 0 => .array .int
  | 1 => .array .int
  | 2 => .int
  | 3 => .array .int
  | 4 => .boolean
  | 5 => .array .int
  | 6 => .int
  | 7 => .array .int
  | 8 => .int
  | 9 => .array .int
  | 10 => .int
  | 11 => .array .int
  | 12 => .array .int
  | 13 => .int
  | 14 => .array (.boolean)
  | 15 => .int
  | 16 => .array (.char)
  | 17 => .int
  | 18 => .int
  | 19 => .int
  | 20 => .int
  | 21 => .array .int
  | 22 => .array .int
  | 23 => .array (.boolean)
  | _ => .array .int
abbrev zCl : List vw_C := [(RX0, TX0, 12), (RX1, TX1, 12), (RX2, TX2, 5), (RX3, TX3, 6), (RX4, TX4, 3), (RX5, TX5, 1), (RX1, TX1, 12), (RX7, TX7, 8), (RX8, TX8, 7), (RX9, TX9, 10), (RX10, TX10, 25)]
def zCN : List String := ["DungeonBuilder$Architect", "DungeonBuilder$Dungeon", "DungeonBuilder$Explorer", "DungeonBuilder$FloorPlan", "DungeonBuilder$History", "DungeonBuilder$Locksmith", "DungeonBuilder$Reach", "DungeonBuilder$Script", "DungeonBuilder$Walks", "DungeonBuilder", "DungeonBuilderModel", "java/lang/Double", "java/lang/Integer", "java/lang/Math", "java/util/Arrays", "DungeonBuilderLaw"]
/-- a field's kind: 0 an int, 1 a boolean, 2 a reference -/
def zFk : List (List Nat) := [[2, 2, 2, 2, 2, 2, 2, 2, 0, 0, 0, 0], [2, 2, 2, 2, 2, 2, 2, 2, 0, 0, 0, 0], [2, 2, 2, 2, 0], [2, 2, 2, 2, 2, 0], [2, 0, 0], [2], [2, 2, 2, 2, 2, 2, 2, 2, 0, 0, 0, 0], [2, 2, 2, 2, 0, 0, 0, 0], [2, 2, 2, 2, 2, 2, 0], [2, 2, 2, 2, 2, 2, 2, 2, 2, 1], [2, 2, 0, 2, 1, 2, 0, 2, 0, 2, 0, 2, 2, 0, 2, 0, 2, 0, 0, 0, 0, 2, 2, 2, 2]]
def zc_0 : List (Nat × Nat × Instr) := [(0, 1, .aload_n 0), (1, 3, .invokespecial 3), (4, 1, .aload_n 0), (5, 2, .bipush 23), (7, 2, .newarray .int), (9, 3, .putfield 11), (12, 1, .aload_n 0), (13, 2, .bipush 23), (15, 2, .newarray .int), (17, 3, .putfield 15), (20, 1, .aload_n 0), (21, 2, .bipush 23), (23, 2, .newarray .int), (25, 3, .putfield 18), (28, 1, .aload_n 0), (29, 2, .bipush 23), (31, 2, .newarray .int), (33, 3, .putfield 21), (36, 1, .aload_n 0), (37, 2, .bipush 23), (39, 2, .newarray .int), (41, 3, .putfield 24), (44, 1, .aload_n 0), (45, 2, .bipush 23), (47, 2, .newarray .int), (49, 3, .putfield 27), (52, 1, .aload_n 0), (53, 2, .bipush 12), (55, 2, .newarray .int), (57, 3, .putfield 30), (60, 1, .aload_n 0), (61, 2, .bipush 12), (63, 2, .newarray .int), (65, 3, .putfield 33), (68, 1, .aload_n 0), (69, 1, .iconst 0), (70, 3, .putfield 36), (73, 1, .aload_n 0), (74, 1, .iconst 0), (75, 3, .putfield 40), (78, 1, .aload_n 0), (79, 1, .iconst 0), (80, 3, .putfield 43), (83, 1, .aload_n 0), (84, 1, .iconst 0), (85, 3, .putfield 46), (88, 1, .return_)]
def zc_1 : List (Nat × Nat × Instr) := [(0, 1, .aload_n 0), (1, 1, .iload_n 2), (2, 3, .putfield 46), (5, 1, .aload_n 0), (6, 1, .iconst 0), (7, 3, .putfield 36), (10, 1, .aload_n 0), (11, 1, .iconst 0), (12, 3, .putfield 40), (15, 1, .aload_n 0), (16, 1, .iconst 0), (17, 3, .putfield 43), (20, 1, .aload_n 1), (21, 3, .invokevirtual 49), (24, 1, .aload_n 0), (25, 1, .aload_n 0), (26, 1, .iconst 0), (27, 1, .iconst 0), (28, 2, .bipush 24), (30, 2, .bipush 16), (32, 3, .invokevirtual 54), (35, 1, .iload_n 3), (36, 3, .invokestatic 58), (39, 1, .iconst 0), (40, 2, .istore 4), (42, 2, .iload 4), (44, 1, .aload_n 0), (45, 3, .getfield 40), (48, 3, .if_icmp .ge 21), (51, 1, .aload_n 0), (52, 1, .aload_n 1), (53, 1, .aload_n 0), (54, 3, .getfield 30), (57, 2, .iload 4), (59, 1, .iaload), (60, 3, .invokevirtual 62), (63, 3, .iinc 4 1), (66, 3, .goto (-24)), (69, 1, .iconst 0), (70, 2, .istore 4), (72, 2, .iload 4), (74, 1, .aload_n 0), (75, 3, .getfield 43), (78, 3, .if_icmp .ge 30), (81, 1, .aload_n 0), (82, 1, .aload_n 1), (83, 1, .aload_n 0), (84, 3, .getfield 33), (87, 2, .iload 4), (89, 1, .iaload), (90, 1, .aload_n 0), (91, 3, .getfield 33), (94, 2, .iload 4), (96, 1, .iaload), (97, 1, .iconst 1), (98, 1, .iadd), (99, 3, .invokevirtual 66), (102, 3, .iinc 4 1), (105, 3, .goto (-33)), (108, 1, .return_)]
def zc_2 : List (Nat × Nat × Instr) := [(0, 1, .aload_n 0), (1, 1, .aload_n 0), (2, 3, .getfield 46), (5, 2, .ldc 70), (7, 1, .imul), (8, 3, .sipush 12345), (11, 1, .iadd), (12, 3, .putfield 46), (15, 1, .iload_n 1), (16, 3, .ifCond .gt 7), (19, 1, .iconst 0), (20, 3, .goto 16), (23, 1, .aload_n 0), (24, 3, .getfield 46), (27, 2, .bipush 16), (29, 1, .iushr), (30, 3, .sipush 32767), (33, 1, .iand), (34, 1, .iload_n 1), (35, 1, .irem), (36, 1, .ireturn)]
def zc_3 : List (Nat × Nat × Instr) := [(0, 1, .aload_n 0), (1, 3, .getfield 36), (4, 2, .bipush 23), (6, 3, .if_icmp .lt 5), (9, 1, .iconst (-1)), (10, 1, .ireturn), (11, 1, .aload_n 0), (12, 3, .getfield 11), (15, 1, .aload_n 0), (16, 3, .getfield 36), (19, 1, .iload_n 1), (20, 1, .iastore), (21, 1, .aload_n 0), (22, 3, .getfield 15), (25, 1, .aload_n 0), (26, 3, .getfield 36), (29, 1, .iload_n 2), (30, 1, .iastore), (31, 1, .aload_n 0), (32, 3, .getfield 18), (35, 1, .aload_n 0), (36, 3, .getfield 36), (39, 1, .iload_n 3), (40, 1, .iastore), (41, 1, .aload_n 0), (42, 3, .getfield 21), (45, 1, .aload_n 0), (46, 3, .getfield 36), (49, 2, .iload 4), (51, 1, .iastore), (52, 1, .aload_n 0), (53, 1, .dup), (54, 3, .getfield 36), (57, 1, .iconst 1), (58, 1, .iadd), (59, 3, .putfield 36), (62, 1, .aload_n 0), (63, 3, .getfield 36), (66, 1, .iconst 1), (67, 1, .isub), (68, 1, .ireturn)]
def zc_4 : List (Nat × Nat × Instr) := [(0, 1, .iload_n 1), (1, 3, .ifCond .lt 9), (4, 1, .iload_n 1), (5, 2, .bipush 23), (7, 3, .if_icmp .lt 4), (10, 1, .return_), (11, 1, .aload_n 0), (12, 3, .getfield 24), (15, 1, .iload_n 1), (16, 1, .aload_n 0), (17, 3, .getfield 40), (20, 1, .iastore), (21, 1, .iload_n 2), (22, 3, .ifCond .le 11), (25, 1, .aload_n 0), (26, 1, .iload_n 1), (27, 3, .invokevirtual 71), (30, 3, .goto 4), (33, 1, .iconst (-1)), (34, 1, .istore_n 3), (35, 1, .iload_n 3), (36, 1, .iconst (-1)), (37, 3, .if_icmp .ne 11), (40, 1, .aload_n 0), (41, 1, .iload_n 1), (42, 3, .invokevirtual 75), (45, 3, .goto 26), (48, 1, .aload_n 0), (49, 1, .iload_n 3), (50, 1, .iload_n 2), (51, 1, .iconst 1), (52, 1, .isub), (53, 3, .invokestatic 58), (56, 1, .aload_n 0), (57, 1, .iload_n 3), (58, 1, .iconst 1), (59, 1, .iadd), (60, 1, .iload_n 2), (61, 1, .iconst 1), (62, 1, .isub), (63, 3, .invokestatic 58), (66, 1, .aload_n 0), (67, 1, .iload_n 3), (68, 3, .invokevirtual 79), (71, 1, .aload_n 0), (72, 3, .getfield 27), (75, 1, .iload_n 1), (76, 1, .aload_n 0), (77, 3, .getfield 40), (80, 1, .iastore), (81, 1, .return_)]
def zc_5 : List (Nat × Nat × Instr) := [(0, 1, .aload_n 0), (1, 3, .getfield 40), (4, 2, .bipush 12), (6, 3, .if_icmp .ge 23), (9, 1, .aload_n 0), (10, 3, .getfield 30), (13, 1, .aload_n 0), (14, 3, .getfield 40), (17, 1, .iload_n 1), (18, 1, .iastore), (19, 1, .aload_n 0), (20, 1, .dup), (21, 3, .getfield 40), (24, 1, .iconst 1), (25, 1, .iadd), (26, 3, .putfield 40), (29, 1, .return_)]
def zc_6 : List (Nat × Nat × Instr) := [(0, 1, .aload_n 0), (1, 3, .getfield 43), (4, 2, .bipush 12), (6, 3, .if_icmp .ge 23), (9, 1, .aload_n 0), (10, 3, .getfield 33), (13, 1, .aload_n 0), (14, 3, .getfield 43), (17, 1, .iload_n 1), (18, 1, .iastore), (19, 1, .aload_n 0), (20, 1, .dup), (21, 3, .getfield 43), (24, 1, .iconst 1), (25, 1, .iadd), (26, 3, .putfield 43), (29, 1, .return_)]
def zc_7 : List (Nat × Nat × Instr) := [(0, 1, .aload_n 0), (1, 3, .getfield 11), (4, 1, .iload_n 1), (5, 1, .iaload), (6, 1, .istore_n 2), (7, 1, .aload_n 0), (8, 3, .getfield 15), (11, 1, .iload_n 1), (12, 1, .iaload), (13, 1, .istore_n 3), (14, 1, .aload_n 0), (15, 3, .getfield 18), (18, 1, .iload_n 1), (19, 1, .iaload), (20, 2, .istore 4), (22, 1, .aload_n 0), (23, 3, .getfield 21), (26, 1, .iload_n 1), (27, 1, .iaload), (28, 2, .istore 5), (30, 2, .iload 4), (32, 2, .bipush 10), (34, 3, .if_icmp .ge 10), (37, 2, .iload 5), (39, 2, .bipush 10), (41, 3, .if_icmp .lt 14), (44, 1, .aload_n 0), (45, 3, .getfield 36), (48, 1, .iconst 2), (49, 1, .iadd), (50, 2, .bipush 23), (52, 3, .if_icmp .le 5), (55, 1, .iconst (-1)), (56, 1, .ireturn), (57, 2, .iload 4), (59, 2, .bipush 10), (61, 3, .if_icmp .lt 14), (64, 2, .iload 5), (66, 2, .bipush 10), (68, 3, .if_icmp .lt 7), (71, 1, .iconst 1), (72, 3, .goto 4), (75, 1, .iconst 0), (76, 2, .istore 6), (78, 2, .iload 6), (80, 3, .ifCond .eq 19), (83, 1, .aload_n 0), (84, 1, .iconst 2), (85, 3, .invokevirtual 82), (88, 3, .ifCond .ne 7), (91, 1, .iconst 1), (92, 3, .goto 19), (95, 1, .iconst 0), (96, 3, .goto 15), (99, 2, .iload 4), (101, 2, .bipush 10), (103, 3, .if_icmp .lt 7), (106, 1, .iconst 1), (107, 3, .goto 4), (110, 1, .iconst 0), (111, 2, .istore 7), (113, 1, .iconst 5), (114, 1, .aload_n 0), (115, 2, .iload 7), (117, 3, .ifCond .eq 8), (120, 2, .iload 4), (122, 3, .goto 5), (125, 2, .iload 5), (127, 2, .bipush 10), (129, 1, .isub), (130, 1, .iconst 1), (131, 1, .iadd), (132, 3, .invokevirtual 82), (135, 1, .iadd), (136, 2, .istore 8), (138, 2, .iload 7), (140, 3, .ifCond .eq 16), (143, 1, .aload_n 0), (144, 1, .iload_n 2), (145, 1, .iload_n 3), (146, 2, .iload 8), (148, 2, .iload 5), (150, 3, .invokevirtual 54), (153, 3, .goto 13), (156, 1, .aload_n 0), (157, 1, .iload_n 2), (158, 1, .iload_n 3), (159, 2, .iload 4), (161, 2, .iload 8), (163, 3, .invokevirtual 54), (166, 2, .istore 9), (168, 2, .iload 7), (170, 3, .ifCond .eq 23), (173, 1, .aload_n 0), (174, 1, .iload_n 2), (175, 2, .iload 8), (177, 1, .iadd), (178, 1, .iload_n 3), (179, 2, .iload 4), (181, 2, .iload 8), (183, 1, .isub), (184, 2, .iload 5), (186, 3, .invokevirtual 54), (189, 1, .pop), (190, 3, .goto 20), (193, 1, .aload_n 0), (194, 1, .iload_n 2), (195, 1, .iload_n 3), (196, 2, .iload 8), (198, 1, .iadd), (199, 2, .iload 4), (201, 2, .iload 5), (203, 2, .iload 8), (205, 1, .isub), (206, 3, .invokevirtual 54), (209, 1, .pop), (210, 2, .iload 9), (212, 1, .ireturn)]
def zc_8 : List (Nat × Nat × Instr) := [(0, 2, .bipush 12), (2, 1, .iconst 3), (3, 1, .aload_n 0), (4, 1, .aload_n 0), (5, 3, .getfield 18), (8, 1, .iload_n 2), (9, 1, .iaload), (10, 1, .iconst 4), (11, 1, .isub), (12, 3, .invokevirtual 82), (15, 1, .iadd), (16, 3, .invokestatic 85), (19, 1, .istore_n 3), (20, 2, .bipush 12), (22, 1, .iconst 3), (23, 1, .aload_n 0), (24, 1, .aload_n 0), (25, 3, .getfield 21), (28, 1, .iload_n 2), (29, 1, .iaload), (30, 1, .iconst 4), (31, 1, .isub), (32, 3, .invokevirtual 82), (35, 1, .iadd), (36, 3, .invokestatic 85), (39, 2, .istore 4), (41, 1, .aload_n 0), (42, 3, .getfield 11), (45, 1, .iload_n 2), (46, 1, .iaload), (47, 1, .iconst 1), (48, 1, .iadd), (49, 1, .aload_n 0), (50, 1, .aload_n 0), (51, 3, .getfield 18), (54, 1, .iload_n 2), (55, 1, .iaload), (56, 1, .iload_n 3), (57, 1, .isub), (58, 1, .iconst 1), (59, 1, .isub), (60, 3, .invokevirtual 82), (63, 1, .iadd), (64, 2, .istore 5), (66, 1, .aload_n 0), (67, 3, .getfield 15), (70, 1, .iload_n 2), (71, 1, .iaload), (72, 1, .iconst 1), (73, 1, .iadd), (74, 1, .aload_n 0), (75, 1, .aload_n 0), (76, 3, .getfield 21), (79, 1, .iload_n 2), (80, 1, .iaload), (81, 2, .iload 4), (83, 1, .isub), (84, 1, .iconst 1), (85, 1, .isub), (86, 3, .invokevirtual 82), (89, 1, .iadd), (90, 2, .istore 6), (92, 1, .aload_n 1), (93, 2, .iload 5), (95, 2, .iload 6), (97, 1, .iload_n 3), (98, 2, .iload 4), (100, 3, .invokevirtual 91), (103, 1, .pop), (104, 1, .return_)]
def zc_9 : List (Nat × Nat × Instr) := [(0, 1, .iconst (-1)), (1, 2, .istore 4), (3, 1, .iconst (-1)), (4, 2, .istore 5), (6, 2, .bipush 40), (8, 2, .istore 6), (10, 1, .aload_n 0), (11, 3, .getfield 24), (14, 1, .iload_n 2), (15, 1, .iaload), (16, 2, .istore 7), (18, 2, .iload 7), (20, 1, .aload_n 0), (21, 3, .getfield 27), (24, 1, .iload_n 2), (25, 1, .iaload), (26, 3, .if_icmp .ge 65), (29, 1, .aload_n 0), (30, 3, .getfield 24), (33, 1, .iload_n 3), (34, 1, .iaload), (35, 2, .istore 8), (37, 2, .iload 8), (39, 1, .aload_n 0), (40, 3, .getfield 27), (43, 1, .iload_n 3), (44, 1, .iaload), (45, 3, .if_icmp .ge 40), (48, 1, .aload_n 1), (49, 2, .iload 7), (51, 2, .iload 8), (53, 3, .invokevirtual 94), (56, 2, .iload 6), (58, 3, .if_icmp .ge 21), (61, 2, .iload 7), (63, 2, .istore 4), (65, 2, .iload 8), (67, 2, .istore 5), (69, 1, .aload_n 1), (70, 2, .iload 7), (72, 2, .iload 8), (74, 3, .invokevirtual 94), (77, 2, .istore 6), (79, 3, .iinc 8 1), (82, 3, .goto (-45)), (85, 3, .iinc 7 1), (88, 3, .goto (-70)), (91, 1, .aload_n 1), (92, 2, .iload 4), (94, 2, .iload 5), (96, 3, .invokevirtual 97), (99, 1, .pop), (100, 1, .return_)]
def zc_10 : List (Nat × Nat × Instr) := [(0, 1, .aload_n 0), (1, 3, .invokespecial 3), (4, 1, .aload_n 0), (5, 2, .bipush 12), (7, 2, .newarray .int), (9, 3, .putfield 9), (12, 1, .aload_n 0), (13, 2, .bipush 12), (15, 2, .newarray .int), (17, 3, .putfield 15), (20, 1, .aload_n 0), (21, 2, .bipush 12), (23, 2, .newarray .int), (25, 3, .putfield 18), (28, 1, .aload_n 0), (29, 2, .bipush 12), (31, 2, .newarray .int), (33, 3, .putfield 21), (36, 1, .aload_n 0), (37, 2, .bipush 12), (39, 2, .newarray .int), (41, 3, .putfield 24), (44, 1, .aload_n 0), (45, 2, .bipush 20), (47, 2, .newarray .int), (49, 3, .putfield 27), (52, 1, .aload_n 0), (53, 2, .bipush 20), (55, 2, .newarray .int), (57, 3, .putfield 30), (60, 1, .aload_n 0), (61, 2, .bipush 20), (63, 2, .newarray .int), (65, 3, .putfield 33), (68, 1, .aload_n 0), (69, 1, .iconst 0), (70, 3, .putfield 36), (73, 1, .aload_n 0), (74, 1, .iconst 0), (75, 3, .putfield 40), (78, 1, .aload_n 0), (79, 1, .iconst 0), (80, 3, .putfield 43), (83, 1, .aload_n 0), (84, 1, .iconst 0), (85, 3, .putfield 46), (88, 1, .return_)]
def zc_11 : List (Nat × Nat × Instr) := [(0, 1, .iconst 0), (1, 1, .istore_n 2), (2, 1, .iload_n 2), (3, 1, .aload_n 1), (4, 3, .getfield 36), (7, 3, .if_icmp .ge 16), (10, 1, .aload_n 0), (11, 1, .iload_n 2), (12, 1, .aload_n 1), (13, 1, .iload_n 2), (14, 3, .invokevirtual 49), (17, 3, .iinc 2 1), (20, 3, .goto (-18)), (23, 1, .iconst 0), (24, 1, .istore_n 2), (25, 1, .iload_n 2), (26, 1, .aload_n 1), (27, 3, .getfield 40), (30, 3, .if_icmp .ge 16), (33, 1, .aload_n 0), (34, 1, .iload_n 2), (35, 1, .aload_n 1), (36, 1, .iload_n 2), (37, 3, .invokevirtual 53), (40, 3, .iinc 2 1), (43, 3, .goto (-18)), (46, 1, .aload_n 0), (47, 1, .aload_n 1), (48, 3, .getfield 36), (51, 3, .putfield 36), (54, 1, .aload_n 0), (55, 1, .aload_n 1), (56, 3, .getfield 40), (59, 3, .putfield 40), (62, 1, .aload_n 0), (63, 1, .aload_n 1), (64, 3, .getfield 43), (67, 3, .putfield 43), (70, 1, .aload_n 0), (71, 1, .aload_n 1), (72, 3, .getfield 46), (75, 3, .putfield 46), (78, 1, .return_)]
def zc_12 : List (Nat × Nat × Instr) := [(0, 1, .aload_n 0), (1, 3, .getfield 9), (4, 1, .iload_n 1), (5, 1, .aload_n 2), (6, 3, .getfield 9), (9, 1, .iload_n 3), (10, 1, .iaload), (11, 1, .iastore), (12, 1, .aload_n 0), (13, 3, .getfield 15), (16, 1, .iload_n 1), (17, 1, .aload_n 2), (18, 3, .getfield 15), (21, 1, .iload_n 3), (22, 1, .iaload), (23, 1, .iastore), (24, 1, .aload_n 0), (25, 3, .getfield 18), (28, 1, .iload_n 1), (29, 1, .aload_n 2), (30, 3, .getfield 18), (33, 1, .iload_n 3), (34, 1, .iaload), (35, 1, .iastore), (36, 1, .aload_n 0), (37, 3, .getfield 21), (40, 1, .iload_n 1), (41, 1, .aload_n 2), (42, 3, .getfield 21), (45, 1, .iload_n 3), (46, 1, .iaload), (47, 1, .iastore), (48, 1, .aload_n 0), (49, 3, .getfield 24), (52, 1, .iload_n 1), (53, 1, .aload_n 2), (54, 3, .getfield 24), (57, 1, .iload_n 3), (58, 1, .iaload), (59, 1, .iastore), (60, 1, .return_)]
def zc_13 : List (Nat × Nat × Instr) := [(0, 1, .aload_n 0), (1, 3, .getfield 27), (4, 1, .iload_n 1), (5, 1, .aload_n 2), (6, 3, .getfield 27), (9, 1, .iload_n 3), (10, 1, .iaload), (11, 1, .iastore), (12, 1, .aload_n 0), (13, 3, .getfield 30), (16, 1, .iload_n 1), (17, 1, .aload_n 2), (18, 3, .getfield 30), (21, 1, .iload_n 3), (22, 1, .iaload), (23, 1, .iastore), (24, 1, .aload_n 0), (25, 3, .getfield 33), (28, 1, .iload_n 1), (29, 1, .aload_n 2), (30, 3, .getfield 33), (33, 1, .iload_n 3), (34, 1, .iaload), (35, 1, .iastore), (36, 1, .return_)]
def zc_14 : List (Nat × Nat × Instr) := [(0, 1, .aload_n 0), (1, 1, .iconst 0), (2, 3, .putfield 36), (5, 1, .aload_n 0), (6, 1, .iconst 0), (7, 3, .putfield 40), (10, 1, .aload_n 0), (11, 1, .iconst 0), (12, 3, .putfield 43), (15, 1, .return_)]
def zc_15 : List (Nat × Nat × Instr) := [(0, 1, .iload_n 1), (1, 3, .ifCond .lt 15), (4, 1, .iload_n 1), (5, 1, .aload_n 0), (6, 3, .getfield 36), (9, 3, .if_icmp .ge 7), (12, 1, .iconst 1), (13, 3, .goto 4), (16, 1, .iconst 0), (17, 1, .ireturn)]
def zc_16 : List (Nat × Nat × Instr) := [(0, 1, .iload_n 1), (1, 3, .ifCond .lt 15), (4, 1, .iload_n 1), (5, 1, .aload_n 0), (6, 3, .getfield 40), (9, 3, .if_icmp .ge 7), (12, 1, .iconst 1), (13, 3, .goto 4), (16, 1, .iconst 0), (17, 1, .ireturn)]
def zc_17 : List (Nat × Nat × Instr) := [(0, 1, .iload_n 1), (1, 1, .iload_n 2), (2, 1, .iload_n 3), (3, 2, .iload 4), (5, 3, .invokestatic 56), (8, 3, .ifCond .ne 6), (11, 2, .bipush (-102)), (13, 1, .ireturn), (14, 1, .aload_n 0), (15, 1, .iload_n 1), (16, 1, .iload_n 2), (17, 1, .iload_n 3), (18, 2, .iload 4), (20, 3, .invokevirtual 60), (23, 3, .ifCond .eq 6), (26, 2, .bipush (-106)), (28, 1, .ireturn), (29, 1, .aload_n 0), (30, 3, .getfield 36), (33, 2, .bipush 12), (35, 3, .if_icmp .lt 6), (38, 2, .bipush (-103)), (40, 1, .ireturn), (41, 1, .aload_n 0), (42, 3, .getfield 9), (45, 1, .aload_n 0), (46, 3, .getfield 36), (49, 1, .iload_n 1), (50, 1, .iastore), (51, 1, .aload_n 0), (52, 3, .getfield 15), (55, 1, .aload_n 0), (56, 3, .getfield 36), (59, 1, .iload_n 2), (60, 1, .iastore), (61, 1, .aload_n 0), (62, 3, .getfield 18), (65, 1, .aload_n 0), (66, 3, .getfield 36), (69, 1, .iload_n 3), (70, 1, .iastore), (71, 1, .aload_n 0), (72, 3, .getfield 21), (75, 1, .aload_n 0), (76, 3, .getfield 36), (79, 2, .iload 4), (81, 1, .iastore), (82, 1, .aload_n 0), (83, 3, .getfield 24), (86, 1, .aload_n 0), (87, 3, .getfield 36), (90, 1, .iconst (-1)), (91, 1, .iastore), (92, 1, .aload_n 0), (93, 1, .dup), (94, 3, .getfield 36), (97, 1, .iconst 1), (98, 1, .iadd), (99, 3, .putfield 36), (102, 1, .aload_n 0), (103, 3, .getfield 36), (106, 1, .iconst 1), (107, 1, .isub), (108, 1, .ireturn)]
def zc_18 : List (Nat × Nat × Instr) := [(0, 1, .iload_n 2), (1, 1, .iconst 2), (2, 3, .if_icmp .lt 24), (5, 1, .iload_n 2), (6, 2, .bipush 12), (8, 3, .if_icmp .gt 18), (11, 1, .iload_n 3), (12, 1, .iconst 2), (13, 3, .if_icmp .lt 13), (16, 1, .iload_n 3), (17, 2, .bipush 12), (19, 3, .if_icmp .gt 7), (22, 1, .iconst 1), (23, 3, .goto 4), (26, 1, .iconst 0), (27, 2, .istore 4), (29, 2, .iload 4), (31, 3, .ifCond .eq 31), (34, 1, .iload_n 0), (35, 3, .ifCond .lt 27), (38, 1, .iload_n 0), (39, 2, .bipush 24), (41, 1, .iload_n 2), (42, 1, .isub), (43, 3, .if_icmp .gt 19), (46, 1, .iload_n 1), (47, 3, .ifCond .lt 15), (50, 1, .iload_n 1), (51, 2, .bipush 16), (53, 1, .iload_n 3), (54, 1, .isub), (55, 3, .if_icmp .gt 7), (58, 1, .iconst 1), (59, 3, .goto 4), (62, 1, .iconst 0), (63, 1, .ireturn)]
def zc_19 : List (Nat × Nat × Instr) := [(0, 1, .iconst 0), (1, 2, .istore 5), (3, 2, .iload 5), (5, 1, .aload_n 0), (6, 3, .getfield 36), (9, 3, .if_icmp .ge 100), (12, 1, .iload_n 1), (13, 1, .aload_n 0), (14, 3, .getfield 9), (17, 2, .iload 5), (19, 1, .iaload), (20, 1, .aload_n 0), (21, 3, .getfield 18), (24, 2, .iload 5), (26, 1, .iaload), (27, 1, .iadd), (28, 3, .if_icmp .ge 20), (31, 1, .aload_n 0), (32, 3, .getfield 9), (35, 2, .iload 5), (37, 1, .iaload), (38, 1, .iload_n 1), (39, 1, .iload_n 3), (40, 1, .iadd), (41, 3, .if_icmp .ge 7), (44, 1, .iconst 1), (45, 3, .goto 4), (48, 1, .iconst 0), (49, 2, .istore 6), (51, 1, .iload_n 2), (52, 1, .aload_n 0), (53, 3, .getfield 15), (56, 2, .iload 5), (58, 1, .iaload), (59, 1, .aload_n 0), (60, 3, .getfield 21), (63, 2, .iload 5), (65, 1, .iaload), (66, 1, .iadd), (67, 3, .if_icmp .ge 21), (70, 1, .aload_n 0), (71, 3, .getfield 15), (74, 2, .iload 5), (76, 1, .iaload), (77, 1, .iload_n 2), (78, 2, .iload 4), (80, 1, .iadd), (81, 3, .if_icmp .ge 7), (84, 1, .iconst 1), (85, 3, .goto 4), (88, 1, .iconst 0), (89, 2, .istore 7), (91, 2, .iload 6), (93, 3, .ifCond .eq 10), (96, 2, .iload 7), (98, 3, .ifCond .eq 5), (101, 1, .iconst 1), (102, 1, .ireturn), (103, 3, .iinc 5 1), (106, 3, .goto (-103)), (109, 1, .iconst 0), (110, 1, .ireturn)]
def zc_20 : List (Nat × Nat × Instr) := [(0, 1, .aload_n 0), (1, 1, .iload_n 1), (2, 3, .invokevirtual 63), (5, 3, .ifCond .eq 11), (8, 1, .aload_n 0), (9, 1, .iload_n 2), (10, 3, .invokevirtual 63), (13, 3, .ifCond .ne 6), (16, 2, .bipush (-101)), (18, 1, .ireturn), (19, 1, .iload_n 1), (20, 1, .iload_n 2), (21, 3, .if_icmp .ne 6), (24, 2, .bipush (-102)), (26, 1, .ireturn), (27, 1, .aload_n 0), (28, 1, .iload_n 1), (29, 1, .iload_n 2), (30, 3, .invokevirtual 67), (33, 1, .iconst (-1)), (34, 3, .if_icmp .eq 6), (37, 2, .bipush (-106)), (39, 1, .ireturn), (40, 1, .aload_n 0), (41, 3, .getfield 40), (44, 2, .bipush 20), (46, 3, .if_icmp .lt 6), (49, 2, .bipush (-103)), (51, 1, .ireturn), (52, 1, .aload_n 0), (53, 3, .getfield 27), (56, 1, .aload_n 0), (57, 3, .getfield 40), (60, 1, .iload_n 1), (61, 1, .iload_n 2), (62, 3, .invokestatic 71), (65, 1, .iastore), (66, 1, .aload_n 0), (67, 3, .getfield 30), (70, 1, .aload_n 0), (71, 3, .getfield 40), (74, 1, .iload_n 1), (75, 1, .iload_n 2), (76, 3, .invokestatic 76), (79, 1, .iastore), (80, 1, .aload_n 0), (81, 3, .getfield 33), (84, 1, .aload_n 0), (85, 3, .getfield 40), (88, 1, .iconst (-1)), (89, 1, .iastore), (90, 1, .aload_n 0), (91, 1, .dup), (92, 3, .getfield 40), (95, 1, .iconst 1), (96, 1, .iadd), (97, 3, .putfield 40), (100, 1, .aload_n 0), (101, 3, .getfield 40), (104, 1, .iconst 1), (105, 1, .isub), (106, 1, .ireturn)]
def zc_21 : List (Nat × Nat × Instr) := [(0, 1, .iconst (-1)), (1, 1, .istore_n 1), (2, 1, .iconst (-1)), (3, 1, .istore_n 2), (4, 2, .bipush 40), (6, 1, .istore_n 3), (7, 1, .iconst 0), (8, 2, .istore 4), (10, 2, .iload 4), (12, 1, .aload_n 0), (13, 3, .getfield 36), (16, 3, .if_icmp .ge 69), (19, 2, .iload 4), (21, 1, .iconst 1), (22, 1, .iadd), (23, 2, .istore 5), (25, 2, .iload 5), (27, 1, .aload_n 0), (28, 3, .getfield 36), (31, 3, .if_icmp .ge 48), (34, 1, .aload_n 0), (35, 2, .iload 4), (37, 2, .iload 5), (39, 3, .invokevirtual 79), (42, 1, .iload_n 3), (43, 3, .if_icmp .ge 30), (46, 1, .aload_n 0), (47, 2, .iload 4), (49, 2, .iload 5), (51, 3, .invokevirtual 67), (54, 1, .iconst (-1)), (55, 3, .if_icmp .ne 18), (58, 2, .iload 4), (60, 1, .istore_n 1), (61, 2, .iload 5), (63, 1, .istore_n 2), (64, 1, .aload_n 0), (65, 2, .iload 4), (67, 2, .iload 5), (69, 3, .invokevirtual 79), (72, 1, .istore_n 3), (73, 3, .iinc 5 1), (76, 3, .goto (-51)), (79, 3, .iinc 4 1), (82, 3, .goto (-72)), (85, 1, .iload_n 1), (86, 1, .iconst (-1)), (87, 3, .if_icmp .ne 8), (90, 2, .bipush (-104)), (92, 3, .goto 9), (95, 1, .aload_n 0), (96, 1, .iload_n 1), (97, 1, .iload_n 2), (98, 3, .invokevirtual 82), (101, 1, .ireturn)]
def zc_22 : List (Nat × Nat × Instr) := [(0, 1, .aload_n 0), (1, 1, .iload_n 1), (2, 3, .invokevirtual 85), (5, 3, .ifCond .ne 6), (8, 2, .bipush (-101)), (10, 1, .ireturn), (11, 1, .iload_n 2), (12, 3, .invokestatic 88), (15, 3, .ifCond .ne 6), (18, 2, .bipush (-102)), (20, 1, .ireturn), (21, 1, .aload_n 0), (22, 3, .getfield 33), (25, 1, .iload_n 1), (26, 1, .iaload), (27, 1, .istore_n 3), (28, 1, .aload_n 0), (29, 3, .getfield 33), (32, 1, .iload_n 1), (33, 1, .iload_n 2), (34, 1, .iastore), (35, 1, .iload_n 3), (36, 3, .invokestatic 91), (39, 1, .ireturn)]
def zc_23 : List (Nat × Nat × Instr) := [(0, 1, .aload_n 0), (1, 1, .iload_n 1), (2, 3, .invokevirtual 63), (5, 3, .ifCond .ne 6), (8, 2, .bipush (-101)), (10, 1, .ireturn), (11, 1, .iload_n 2), (12, 3, .invokestatic 88), (15, 3, .ifCond .ne 6), (18, 2, .bipush (-102)), (20, 1, .ireturn), (21, 1, .aload_n 0), (22, 3, .getfield 24), (25, 1, .iload_n 1), (26, 1, .iaload), (27, 1, .istore_n 3), (28, 1, .aload_n 0), (29, 3, .getfield 24), (32, 1, .iload_n 1), (33, 1, .iload_n 2), (34, 1, .iastore), (35, 1, .iload_n 3), (36, 3, .invokestatic 91), (39, 1, .ireturn)]
def zc_24 : List (Nat × Nat × Instr) := [(0, 1, .aload_n 0), (1, 1, .iload_n 1), (2, 3, .invokevirtual 63), (5, 3, .ifCond .ne 6), (8, 2, .bipush (-101)), (10, 1, .ireturn), (11, 1, .aload_n 0), (12, 3, .getfield 43), (15, 1, .istore_n 2), (16, 1, .aload_n 0), (17, 1, .iload_n 1), (18, 3, .putfield 43), (21, 1, .iload_n 2), (22, 1, .ireturn)]
def zc_25 : List (Nat × Nat × Instr) := [(0, 1, .aload_n 0), (1, 1, .iload_n 1), (2, 3, .invokevirtual 63), (5, 3, .ifCond .ne 6), (8, 2, .bipush (-101)), (10, 1, .ireturn), (11, 1, .aload_n 0), (12, 1, .iload_n 1), (13, 3, .invokevirtual 95), (16, 1, .iload_n 1), (17, 1, .iconst 1), (18, 1, .iadd), (19, 1, .istore_n 2), (20, 1, .iload_n 2), (21, 1, .aload_n 0), (22, 3, .getfield 36), (25, 3, .if_icmp .ge 18), (28, 1, .aload_n 0), (29, 1, .iload_n 2), (30, 1, .iconst 1), (31, 1, .isub), (32, 1, .aload_n 0), (33, 1, .iload_n 2), (34, 3, .invokevirtual 49), (37, 3, .iinc 2 1), (40, 3, .goto (-20)), (43, 1, .aload_n 0), (44, 1, .dup), (45, 3, .getfield 36), (48, 1, .iconst 1), (49, 1, .isub), (50, 3, .putfield 36), (53, 1, .iconst 0), (54, 1, .istore_n 2), (55, 1, .iload_n 2), (56, 1, .aload_n 0), (57, 3, .getfield 40), (60, 3, .if_icmp .ge 41), (63, 1, .aload_n 0), (64, 3, .getfield 27), (67, 1, .iload_n 2), (68, 1, .aload_n 0), (69, 3, .getfield 27), (72, 1, .iload_n 2), (73, 1, .iaload), (74, 1, .iload_n 1), (75, 3, .invokestatic 99), (78, 1, .iastore), (79, 1, .aload_n 0), (80, 3, .getfield 30), (83, 1, .iload_n 2), (84, 1, .aload_n 0), (85, 3, .getfield 30), (88, 1, .iload_n 2), (89, 1, .iaload), (90, 1, .iload_n 1), (91, 3, .invokestatic 99), (94, 1, .iastore), (95, 3, .iinc 2 1), (98, 3, .goto (-43)), (101, 1, .aload_n 0), (102, 1, .aload_n 0), (103, 3, .getfield 43), (106, 1, .iload_n 1), (107, 3, .if_icmp .ne 7), (110, 1, .iconst 0), (111, 3, .goto 11), (114, 1, .aload_n 0), (115, 3, .getfield 43), (118, 1, .iload_n 1), (119, 3, .invokestatic 99), (122, 3, .putfield 43), (125, 1, .aload_n 0), (126, 3, .getfield 36), (129, 1, .ireturn)]
def zc_26 : List (Nat × Nat × Instr) := [(0, 1, .iconst 0), (1, 1, .istore_n 2), (2, 1, .iconst 0), (3, 1, .istore_n 3), (4, 1, .iload_n 3), (5, 1, .aload_n 0), (6, 3, .getfield 40), (9, 3, .if_icmp .ge 28), (12, 1, .aload_n 0), (13, 1, .iload_n 3), (14, 1, .iload_n 1), (15, 3, .invokevirtual 102), (18, 3, .ifCond .ne 13), (21, 1, .aload_n 0), (22, 1, .iload_n 2), (23, 1, .aload_n 0), (24, 1, .iload_n 3), (25, 3, .invokevirtual 53), (28, 3, .iinc 2 1), (31, 3, .iinc 3 1), (34, 3, .goto (-30)), (37, 1, .aload_n 0), (38, 1, .iload_n 2), (39, 3, .putfield 40), (42, 1, .return_)]
def zc_27 : List (Nat × Nat × Instr) := [(0, 1, .iload_n 0), (1, 1, .iload_n 1), (2, 3, .if_icmp .le 9), (5, 1, .iload_n 0), (6, 1, .iconst 1), (7, 1, .isub), (8, 3, .goto 4), (11, 1, .iload_n 0), (12, 1, .ireturn)]
def zc_28 : List (Nat × Nat × Instr) := [(0, 1, .aload_n 0), (1, 1, .iload_n 1), (2, 3, .invokevirtual 85), (5, 3, .ifCond .ne 6), (8, 2, .bipush (-101)), (10, 1, .ireturn), (11, 1, .iload_n 1), (12, 1, .iconst 1), (13, 1, .iadd), (14, 1, .istore_n 2), (15, 1, .iload_n 2), (16, 1, .aload_n 0), (17, 3, .getfield 40), (20, 3, .if_icmp .ge 18), (23, 1, .aload_n 0), (24, 1, .iload_n 2), (25, 1, .iconst 1), (26, 1, .isub), (27, 1, .aload_n 0), (28, 1, .iload_n 2), (29, 3, .invokevirtual 53), (32, 3, .iinc 2 1), (35, 3, .goto (-20)), (38, 1, .aload_n 0), (39, 1, .dup), (40, 3, .getfield 40), (43, 1, .iconst 1), (44, 1, .isub), (45, 3, .putfield 40), (48, 1, .aload_n 0), (49, 3, .getfield 40), (52, 1, .ireturn)]
def zc_29 : List (Nat × Nat × Instr) := [(0, 1, .aload_n 0), (1, 3, .getfield 27), (4, 1, .iload_n 1), (5, 1, .iaload), (6, 1, .iload_n 2), (7, 3, .if_icmp .eq 13), (10, 1, .aload_n 0), (11, 3, .getfield 30), (14, 1, .iload_n 1), (15, 1, .iaload), (16, 1, .iload_n 2), (17, 3, .if_icmp .ne 7), (20, 1, .iconst 1), (21, 3, .goto 4), (24, 1, .iconst 0), (25, 1, .ireturn)]
def zc_30 : List (Nat × Nat × Instr) := [(0, 1, .iconst 0), (1, 1, .istore_n 3), (2, 1, .iload_n 3), (3, 1, .aload_n 0), (4, 3, .getfield 40), (7, 3, .if_icmp .ge 34), (10, 1, .iload_n 1), (11, 1, .iload_n 2), (12, 3, .if_icmp .eq 23), (15, 1, .aload_n 0), (16, 1, .iload_n 3), (17, 1, .iload_n 1), (18, 3, .invokevirtual 102), (21, 3, .ifCond .eq 14), (24, 1, .aload_n 0), (25, 1, .iload_n 3), (26, 1, .iload_n 2), (27, 3, .invokevirtual 102), (30, 3, .ifCond .eq 5), (33, 1, .iload_n 3), (34, 1, .ireturn), (35, 3, .iinc 3 1), (38, 3, .goto (-36)), (41, 1, .iconst (-1)), (42, 1, .ireturn)]
def zc_31 : List (Nat × Nat × Instr) := [(0, 1, .iconst 0), (1, 1, .istore_n 2), (2, 1, .iconst 0), (3, 1, .istore_n 3), (4, 1, .iload_n 3), (5, 1, .aload_n 0), (6, 3, .getfield 40), (9, 3, .if_icmp .ge 21), (12, 1, .aload_n 0), (13, 1, .iload_n 3), (14, 1, .iload_n 1), (15, 3, .invokevirtual 102), (18, 3, .ifCond .eq 6), (21, 3, .iinc 2 1), (24, 3, .iinc 3 1), (27, 3, .goto (-23)), (30, 1, .iload_n 2), (31, 1, .ireturn)]
def zc_32 : List (Nat × Nat × Instr) := [(0, 1, .aload_n 0), (1, 3, .getfield 9), (4, 1, .iload_n 1), (5, 1, .iaload), (6, 1, .aload_n 0), (7, 3, .getfield 18), (10, 1, .iload_n 1), (11, 1, .iaload), (12, 1, .iconst 2), (13, 1, .idiv), (14, 1, .iadd), (15, 1, .ireturn)]
def zc_33 : List (Nat × Nat × Instr) := [(0, 1, .aload_n 0), (1, 3, .getfield 15), (4, 1, .iload_n 1), (5, 1, .iaload), (6, 1, .aload_n 0), (7, 3, .getfield 21), (10, 1, .iload_n 1), (11, 1, .iaload), (12, 1, .iconst 2), (13, 1, .idiv), (14, 1, .iadd), (15, 1, .ireturn)]
def zc_34 : List (Nat × Nat × Instr) := [(0, 1, .aload_n 0), (1, 1, .iload_n 1), (2, 3, .invokevirtual 106), (5, 1, .aload_n 0), (6, 1, .iload_n 2), (7, 3, .invokevirtual 106), (10, 1, .isub), (11, 3, .invokestatic 109), (14, 1, .aload_n 0), (15, 1, .iload_n 1), (16, 3, .invokevirtual 112), (19, 1, .aload_n 0), (20, 1, .iload_n 2), (21, 3, .invokevirtual 112), (24, 1, .isub), (25, 3, .invokestatic 109), (28, 1, .iadd), (29, 1, .ireturn)]
def zc_35 : List (Nat × Nat × Instr) := [(0, 1, .aload_n 0), (1, 3, .getfield 33), (4, 1, .iload_n 1), (5, 1, .iaload), (6, 1, .iconst (-1)), (7, 3, .if_icmp .eq 16), (10, 1, .iload_n 2), (11, 1, .aload_n 0), (12, 3, .getfield 33), (15, 1, .iload_n 1), (16, 1, .iaload), (17, 3, .invokestatic 115), (20, 3, .ifCond .eq 7), (23, 1, .iconst 1), (24, 3, .goto 4), (27, 1, .iconst 0), (28, 1, .ireturn)]
def zc_36 : List (Nat × Nat × Instr) := [(0, 1, .aload_n 0), (1, 3, .getfield 24), (4, 1, .iload_n 1), (5, 1, .iaload), (6, 1, .iconst (-1)), (7, 3, .if_icmp .ne 7), (10, 1, .iconst 0), (11, 3, .goto 11), (14, 1, .iconst 1), (15, 1, .aload_n 0), (16, 3, .getfield 24), (19, 1, .iload_n 1), (20, 1, .iaload), (21, 1, .ishl), (22, 1, .ireturn)]
def zc_37 : List (Nat × Nat × Instr) := [(0, 1, .iconst 0), (1, 1, .istore_n 1), (2, 1, .iconst 0), (3, 1, .istore_n 2), (4, 1, .iload_n 2), (5, 1, .aload_n 0), (6, 3, .getfield 40), (9, 3, .if_icmp .ge 22), (12, 1, .aload_n 0), (13, 3, .getfield 33), (16, 1, .iload_n 2), (17, 1, .iaload), (18, 1, .iconst (-1)), (19, 3, .if_icmp .eq 6), (22, 3, .iinc 1 1), (25, 3, .iinc 2 1), (28, 3, .goto (-24)), (31, 1, .iload_n 1), (32, 1, .ireturn)]
def zc_38 : List (Nat × Nat × Instr) := [(0, 1, .iconst 0), (1, 1, .istore_n 1), (2, 1, .iconst 0), (3, 1, .istore_n 2), (4, 1, .iload_n 2), (5, 1, .aload_n 0), (6, 3, .getfield 36), (9, 3, .if_icmp .ge 22), (12, 1, .aload_n 0), (13, 3, .getfield 24), (16, 1, .iload_n 2), (17, 1, .iaload), (18, 1, .iconst (-1)), (19, 3, .if_icmp .eq 6), (22, 3, .iinc 1 1), (25, 3, .iinc 2 1), (28, 3, .goto (-24)), (31, 1, .iload_n 1), (32, 1, .ireturn)]
def zc_39 : List (Nat × Nat × Instr) := [(0, 1, .aload_n 0), (1, 3, .getfield 18), (4, 1, .iload_n 1), (5, 1, .iaload), (6, 1, .aload_n 0), (7, 3, .getfield 21), (10, 1, .iload_n 1), (11, 1, .iaload), (12, 1, .imul), (13, 1, .ireturn)]
def zc_40 : List (Nat × Nat × Instr) := [(0, 1, .iconst 0), (1, 1, .istore_n 1), (2, 1, .iconst 0), (3, 1, .istore_n 2), (4, 1, .iload_n 2), (5, 1, .aload_n 0), (6, 3, .getfield 36), (9, 3, .if_icmp .ge 17), (12, 1, .iload_n 1), (13, 1, .aload_n 0), (14, 1, .iload_n 2), (15, 3, .invokevirtual 118), (18, 1, .iadd), (19, 1, .istore_n 1), (20, 3, .iinc 2 1), (23, 3, .goto (-19)), (26, 1, .iload_n 1), (27, 1, .ireturn)]
def zc_41 : List (Nat × Nat × Instr) := [(0, 1, .iconst 0), (1, 1, .istore_n 1), (2, 1, .iconst 0), (3, 1, .istore_n 2), (4, 1, .iload_n 2), (5, 1, .aload_n 0), (6, 3, .getfield 36), (9, 3, .if_icmp .ge 21), (12, 1, .aload_n 0), (13, 1, .iload_n 2), (14, 3, .invokevirtual 121), (17, 1, .iconst 1), (18, 3, .if_icmp .ne 6), (21, 3, .iinc 1 1), (24, 3, .iinc 2 1), (27, 3, .goto (-23)), (30, 1, .iload_n 1), (31, 1, .ireturn)]
def zc_42 : List (Nat × Nat × Instr) := [(0, 1, .aload_n 0), (1, 3, .invokespecial 3), (4, 1, .aload_n 0), (5, 2, .bipush 12), (7, 2, .newarray .int), (9, 3, .putfield 9), (12, 1, .aload_n 0), (13, 2, .bipush 12), (15, 2, .newarray .int), (17, 3, .putfield 15), (20, 1, .aload_n 0), (21, 2, .bipush 12), (23, 2, .newarray .int), (25, 3, .putfield 18), (28, 1, .aload_n 0), (29, 2, .bipush 12), (31, 2, .newarray .int), (33, 3, .putfield 21), (36, 1, .aload_n 0), (37, 1, .iconst 0), (38, 3, .putfield 24), (41, 1, .return_)]
def zc_43 : List (Nat × Nat × Instr) := [(0, 1, .aload_n 1), (1, 1, .aload_n 1), (2, 3, .getfield 28), (5, 1, .aload_n 0), (6, 3, .getfield 9), (9, 3, .invokestatic 33), (12, 1, .iconst 0), (13, 1, .istore_n 2), (14, 1, .iload_n 2), (15, 1, .aload_n 1), (16, 3, .getfield 39), (19, 3, .if_icmp .ge 26), (22, 1, .aload_n 0), (23, 3, .getfield 15), (26, 1, .iload_n 2), (27, 1, .aload_n 1), (28, 1, .iload_n 2), (29, 1, .aload_n 0), (30, 3, .getfield 9), (33, 1, .iload_n 2), (34, 1, .iaload), (35, 3, .invokestatic 42), (38, 1, .iastore), (39, 3, .iinc 2 1), (42, 3, .goto (-28)), (45, 1, .aload_n 0), (46, 1, .iconst 0), (47, 3, .putfield 24), (50, 1, .iconst 0), (51, 1, .istore_n 2), (52, 1, .aload_n 1), (53, 3, .getfield 39), (56, 3, .ifCond .ne 7), (59, 1, .iconst (-1)), (60, 3, .goto 7), (63, 1, .aload_n 1), (64, 3, .getfield 28), (67, 1, .istore_n 3), (68, 1, .iconst 0), (69, 2, .istore 4), (71, 2, .iload 4), (73, 1, .aload_n 1), (74, 3, .getfield 39), (77, 3, .if_icmp .ge 45), (80, 1, .iload_n 3), (81, 1, .iconst (-1)), (82, 3, .if_icmp .eq 40), (85, 1, .aload_n 0), (86, 3, .getfield 18), (89, 2, .iload 4), (91, 1, .iload_n 3), (92, 1, .iastore), (93, 1, .aload_n 0), (94, 1, .dup), (95, 3, .getfield 24), (98, 1, .iconst 1), (99, 1, .iadd), (100, 3, .putfield 24), (103, 1, .iload_n 2), (104, 1, .iconst 1), (105, 1, .iload_n 3), (106, 1, .ishl), (107, 1, .ior), (108, 1, .istore_n 2), (109, 1, .aload_n 0), (110, 1, .aload_n 1), (111, 1, .iload_n 2), (112, 3, .invokevirtual 46), (115, 1, .istore_n 3), (116, 3, .iinc 4 1), (119, 3, .goto (-48)), (122, 1, .return_)]
def zc_44 : List (Nat × Nat × Instr) := [(0, 1, .iload_n 2), (1, 1, .iconst (-1)), (2, 3, .if_icmp .ne 7), (5, 3, .sipush 500), (8, 1, .ireturn), (9, 1, .aload_n 0), (10, 3, .getfield 50), (13, 27, .lookupswitch 44 #[(0, 27), (1, 32)]), (40, 2, .bipush 10), (42, 1, .iload_n 2), (43, 1, .imul), (44, 1, .ireturn), (45, 1, .iload_n 2), (46, 1, .iload_n 2), (47, 1, .imul), (48, 1, .aload_n 0), (49, 1, .iload_n 1), (50, 3, .invokevirtual 53), (53, 1, .iconst 4), (54, 1, .idiv), (55, 1, .iadd), (56, 1, .ireturn), (57, 2, .bipush 100), (59, 2, .bipush 10), (61, 1, .aload_n 0), (62, 1, .iload_n 1), (63, 3, .invokevirtual 57), (66, 1, .imul), (67, 1, .isub), (68, 1, .iload_n 2), (69, 1, .iadd), (70, 1, .ireturn)]
def zc_45 : List (Nat × Nat × Instr) := [(0, 1, .aload_n 1), (1, 1, .iload_n 2), (2, 3, .invokestatic 60), (5, 1, .istore_n 3), (6, 1, .iconst (-1)), (7, 2, .istore 4), (9, 1, .iconst 0), (10, 2, .istore 5), (12, 2, .iload 5), (14, 1, .aload_n 1), (15, 3, .getfield 39), (18, 3, .if_icmp .ge 45), (21, 1, .iload_n 3), (22, 2, .iload 5), (24, 3, .invokestatic 63), (27, 3, .ifCond .eq 30), (30, 2, .iload 4), (32, 1, .iconst (-1)), (33, 3, .if_icmp .eq 20), (36, 1, .aload_n 0), (37, 3, .getfield 15), (40, 2, .iload 5), (42, 1, .iaload), (43, 1, .aload_n 0), (44, 3, .getfield 15), (47, 2, .iload 4), (49, 1, .iaload), (50, 3, .if_icmp .ge 7), (53, 2, .iload 5), (55, 2, .istore 4), (57, 3, .iinc 5 1), (60, 3, .goto (-48)), (63, 2, .iload 4), (65, 1, .ireturn)]
def zc_46 : List (Nat × Nat × Instr) := [(0, 1, .aload_n 0), (1, 1, .iload_n 1), (2, 3, .invokestatic 67), (5, 1, .istore_n 2), (6, 1, .iconst 0), (7, 1, .istore_n 3), (8, 1, .iconst 0), (9, 2, .istore 4), (11, 2, .iload 4), (13, 1, .aload_n 0), (14, 3, .getfield 70), (17, 3, .if_icmp .ge 52), (20, 1, .iconst 1), (21, 1, .aload_n 0), (22, 3, .getfield 73), (25, 2, .iload 4), (27, 1, .iaload), (28, 1, .ishl), (29, 1, .iconst 1), (30, 1, .aload_n 0), (31, 3, .getfield 76), (34, 2, .iload 4), (36, 1, .iaload), (37, 1, .ishl), (38, 1, .ior), (39, 2, .istore 5), (41, 2, .iload 5), (43, 1, .iload_n 1), (44, 1, .iand), (45, 3, .ifCond .eq 18), (48, 1, .aload_n 0), (49, 2, .iload 4), (51, 1, .iload_n 2), (52, 3, .invokevirtual 79), (55, 3, .ifCond .eq 8), (58, 1, .iload_n 3), (59, 2, .iload 5), (61, 1, .ior), (62, 1, .istore_n 3), (63, 3, .iinc 4 1), (66, 3, .goto (-55)), (69, 1, .iload_n 3), (70, 1, .iload_n 1), (71, 1, .iconst (-1)), (72, 1, .ixor), (73, 1, .iand), (74, 1, .ireturn)]
def zc_47 : List (Nat × Nat × Instr) := [(0, 1, .iload_n 1), (1, 3, .ifCond .lt 15), (4, 1, .iload_n 1), (5, 1, .aload_n 0), (6, 3, .getfield 24), (9, 3, .if_icmp .ge 7), (12, 1, .iconst 1), (13, 3, .goto 4), (16, 1, .iconst 0), (17, 1, .ireturn)]
def zc_48 : List (Nat × Nat × Instr) := [(0, 1, .iconst 0), (1, 1, .istore_n 2), (2, 1, .iload_n 2), (3, 1, .aload_n 0), (4, 3, .getfield 24), (7, 3, .if_icmp .ge 21), (10, 1, .aload_n 0), (11, 3, .getfield 18), (14, 1, .iload_n 2), (15, 1, .iaload), (16, 1, .iload_n 1), (17, 3, .if_icmp .ne 5), (20, 1, .iload_n 2), (21, 1, .ireturn), (22, 3, .iinc 2 1), (25, 3, .goto (-23)), (28, 2, .bipush (-104)), (30, 1, .ireturn)]
def zc_49 : List (Nat × Nat × Instr) := [(0, 1, .aload_n 0), (1, 3, .getfield 15), (4, 1, .aload_n 0), (5, 3, .getfield 18), (8, 1, .iload_n 1), (9, 1, .iaload), (10, 1, .iaload), (11, 1, .aload_n 0), (12, 3, .getfield 15), (15, 1, .aload_n 0), (16, 3, .getfield 18), (19, 1, .iload_n 1), (20, 1, .iconst 1), (21, 1, .isub), (22, 1, .iaload), (23, 1, .iaload), (24, 1, .isub), (25, 1, .ireturn)]
def zc_50 : List (Nat × Nat × Instr) := [(0, 1, .iconst 0), (1, 1, .istore_n 2), (2, 1, .iconst 1), (3, 1, .istore_n 3), (4, 1, .iload_n 3), (5, 1, .aload_n 0), (6, 3, .getfield 24), (9, 3, .if_icmp .ge 39), (12, 1, .aload_n 1), (13, 1, .aload_n 0), (14, 3, .getfield 18), (17, 1, .iload_n 3), (18, 1, .iconst 1), (19, 1, .isub), (20, 1, .iaload), (21, 1, .aload_n 0), (22, 3, .getfield 21), (25, 3, .invokestatic 33), (28, 1, .iload_n 2), (29, 1, .aload_n 0), (30, 3, .getfield 21), (33, 1, .aload_n 0), (34, 3, .getfield 18), (37, 1, .iload_n 3), (38, 1, .iaload), (39, 1, .iaload), (40, 1, .iadd), (41, 1, .istore_n 2), (42, 3, .iinc 3 1), (45, 3, .goto (-41)), (48, 1, .iload_n 2), (49, 1, .ireturn)]
def zc_51 : List (Nat × Nat × Instr) := [(0, 1, .aload_n 0), (1, 3, .invokespecial 3), (4, 1, .aload_n 0), (5, 3, .sipush 384), (8, 2, .newarray .int), (10, 3, .putfield 9), (13, 1, .aload_n 0), (14, 3, .sipush 384), (17, 2, .newarray .int), (19, 3, .putfield 15), (22, 1, .aload_n 0), (23, 3, .sipush 384), (26, 2, .newarray .int), (28, 3, .putfield 18), (31, 1, .aload_n 0), (32, 3, .sipush 384), (35, 2, .newarray .int), (37, 3, .putfield 21), (40, 1, .aload_n 0), (41, 3, .sipush 384), (44, 2, .newarray .int), (46, 3, .putfield 24), (49, 1, .aload_n 0), (50, 1, .iconst 0), (51, 3, .putfield 27), (54, 1, .return_)]
def zc_52 : List (Nat × Nat × Instr) := [(0, 1, .aload_n 0), (1, 3, .getfield 9), (4, 1, .iconst (-1)), (5, 3, .invokestatic 31), (8, 1, .aload_n 0), (9, 3, .getfield 15), (12, 1, .iconst (-1)), (13, 3, .invokestatic 31), (16, 1, .aload_n 0), (17, 3, .getfield 18), (20, 1, .iconst (-1)), (21, 3, .invokestatic 31), (24, 1, .iconst 0), (25, 1, .istore_n 2), (26, 1, .iload_n 2), (27, 1, .aload_n 1), (28, 3, .getfield 37), (31, 3, .if_icmp .ge 15), (34, 1, .aload_n 0), (35, 1, .aload_n 1), (36, 1, .iload_n 2), (37, 3, .invokevirtual 42), (40, 3, .iinc 2 1), (43, 3, .goto (-17)), (46, 1, .aload_n 1), (47, 3, .getfield 46), (50, 1, .iconst 1), (51, 1, .isub), (52, 1, .istore_n 2), (53, 1, .iload_n 2), (54, 3, .ifCond .lt 15), (57, 1, .aload_n 0), (58, 1, .aload_n 1), (59, 1, .iload_n 2), (60, 3, .invokevirtual 49), (63, 3, .iinc 2 (-1)), (66, 3, .goto (-13)), (69, 1, .return_)]
def zc_53 : List (Nat × Nat × Instr) := [(0, 1, .iconst 0), (1, 1, .istore_n 3), (2, 1, .iload_n 3), (3, 1, .aload_n 1), (4, 3, .getfield 52), (7, 1, .iload_n 2), (8, 1, .iaload), (9, 3, .if_icmp .ge 65), (12, 1, .iconst 0), (13, 2, .istore 4), (15, 2, .iload 4), (17, 1, .aload_n 1), (18, 3, .getfield 55), (21, 1, .iload_n 2), (22, 1, .iaload), (23, 3, .if_icmp .ge 45), (26, 1, .aload_n 1), (27, 3, .getfield 58), (30, 1, .iload_n 2), (31, 1, .iaload), (32, 2, .iload 4), (34, 1, .iadd), (35, 1, .aload_n 1), (36, 3, .getfield 61), (39, 1, .iload_n 2), (40, 1, .iaload), (41, 1, .iload_n 3), (42, 1, .iadd), (43, 3, .invokestatic 64), (46, 2, .istore 5), (48, 2, .iload 5), (50, 1, .iconst (-1)), (51, 3, .if_icmp .eq 11), (54, 1, .aload_n 0), (55, 3, .getfield 9), (58, 2, .iload 5), (60, 1, .iload_n 2), (61, 1, .iastore), (62, 3, .iinc 4 1), (65, 3, .goto (-50)), (68, 3, .iinc 3 1), (71, 3, .goto (-69)), (74, 1, .return_)]
def zc_54 : List (Nat × Nat × Instr) := [(0, 1, .aload_n 1), (1, 1, .aload_n 1), (2, 3, .getfield 68), (5, 1, .iload_n 2), (6, 1, .iaload), (7, 1, .aload_n 1), (8, 3, .getfield 71), (11, 1, .iload_n 2), (12, 1, .iaload), (13, 3, .invokevirtual 74), (16, 1, .istore_n 3), (17, 1, .iconst 0), (18, 2, .istore 4), (20, 2, .iload 4), (22, 1, .iload_n 3), (23, 3, .if_icmp .gt 76), (26, 1, .aload_n 1), (27, 1, .iload_n 2), (28, 2, .iload 4), (30, 3, .invokestatic 77), (33, 2, .istore 5), (35, 2, .iload 5), (37, 1, .iconst (-1)), (38, 3, .if_icmp .eq 55), (41, 1, .aload_n 0), (42, 3, .getfield 9), (45, 2, .iload 5), (47, 1, .iaload), (48, 1, .iconst (-1)), (49, 3, .if_icmp .ne 44), (52, 1, .aload_n 0), (53, 3, .getfield 15), (56, 2, .iload 5), (58, 1, .iload_n 2), (59, 1, .iastore), (60, 1, .aload_n 0), (61, 3, .getfield 18), (64, 2, .iload 5), (66, 1, .aload_n 1), (67, 3, .getfield 81), (70, 1, .iload_n 2), (71, 1, .iaload), (72, 1, .iconst (-1)), (73, 3, .if_icmp .ne 13), (76, 1, .aload_n 0), (77, 3, .getfield 18), (80, 2, .iload 5), (82, 1, .iaload), (83, 3, .goto 9), (86, 1, .aload_n 1), (87, 3, .getfield 81), (90, 1, .iload_n 2), (91, 1, .iaload), (92, 1, .iastore), (93, 3, .iinc 4 1), (96, 3, .goto (-76)), (99, 1, .return_)]
def zc_55 : List (Nat × Nat × Instr) := [(0, 1, .aload_n 0), (1, 1, .aload_n 0), (2, 3, .getfield 68), (5, 1, .iload_n 1), (6, 1, .iaload), (7, 3, .invokevirtual 84), (10, 1, .istore_n 3), (11, 1, .aload_n 0), (12, 1, .aload_n 0), (13, 3, .getfield 68), (16, 1, .iload_n 1), (17, 1, .iaload), (18, 3, .invokevirtual 88), (21, 2, .istore 4), (23, 1, .aload_n 0), (24, 1, .aload_n 0), (25, 3, .getfield 71), (28, 1, .iload_n 1), (29, 1, .iaload), (30, 3, .invokevirtual 84), (33, 1, .iload_n 3), (34, 1, .isub), (35, 2, .istore 5), (37, 1, .aload_n 0), (38, 1, .aload_n 0), (39, 3, .getfield 71), (42, 1, .iload_n 1), (43, 1, .iaload), (44, 3, .invokevirtual 88), (47, 2, .iload 4), (49, 1, .isub), (50, 2, .istore 6), (52, 1, .iload_n 1), (53, 1, .iconst 2), (54, 1, .irem), (55, 3, .ifCond .ne 7), (58, 1, .iconst 1), (59, 3, .goto 4), (62, 1, .iconst 0), (63, 2, .istore 7), (65, 2, .iload 7), (67, 3, .ifCond .eq 15), (70, 1, .iload_n 2), (71, 2, .iload 5), (73, 3, .invokestatic 91), (76, 3, .invokestatic 96), (79, 3, .goto 14), (82, 1, .iconst 0), (83, 1, .iload_n 2), (84, 2, .iload 6), (86, 3, .invokestatic 91), (89, 1, .isub), (90, 3, .invokestatic 99), (93, 2, .istore 8), (95, 1, .iload_n 3), (96, 2, .iload 5), (98, 3, .invokestatic 102), (101, 2, .iload 8), (103, 1, .imul), (104, 1, .iadd), (105, 2, .iload 4), (107, 2, .iload 6), (109, 3, .invokestatic 102), (112, 1, .iload_n 2), (113, 2, .iload 8), (115, 1, .isub), (116, 1, .imul), (117, 1, .iadd), (118, 3, .invokestatic 64), (121, 1, .ireturn)]
def zc_56 : List (Nat × Nat × Instr) := [(0, 1, .iconst 0), (1, 1, .istore_n 3), (2, 1, .aload_n 1), (3, 1, .aload_n 1), (4, 3, .getfield 68), (7, 1, .iload_n 2), (8, 1, .iaload), (9, 1, .aload_n 1), (10, 3, .getfield 71), (13, 1, .iload_n 2), (14, 1, .iaload), (15, 3, .invokevirtual 74), (18, 2, .istore 4), (20, 1, .iconst 0), (21, 2, .istore 5), (23, 2, .iload 5), (25, 2, .iload 4), (27, 3, .if_icmp .gt 38), (30, 1, .aload_n 1), (31, 1, .iload_n 2), (32, 2, .iload 5), (34, 3, .invokestatic 77), (37, 2, .istore 6), (39, 2, .iload 6), (41, 1, .iconst (-1)), (42, 3, .if_icmp .eq 17), (45, 1, .aload_n 0), (46, 3, .getfield 9), (49, 2, .iload 6), (51, 1, .iaload), (52, 1, .iconst (-1)), (53, 3, .if_icmp .ne 6), (56, 3, .iinc 3 1), (59, 3, .iinc 5 1), (62, 3, .goto (-39)), (65, 1, .iload_n 3), (66, 1, .ireturn)]
def zc_57 : List (Nat × Nat × Instr) := [(0, 1, .iconst 0), (1, 1, .istore_n 1), (2, 1, .iconst 0), (3, 1, .istore_n 2), (4, 1, .iload_n 2), (5, 3, .sipush 384), (8, 3, .if_icmp .ge 22), (11, 1, .aload_n 0), (12, 3, .getfield 15), (15, 1, .iload_n 2), (16, 1, .iaload), (17, 1, .iconst (-1)), (18, 3, .if_icmp .eq 6), (21, 3, .iinc 1 1), (24, 3, .iinc 2 1), (27, 3, .goto (-23)), (30, 1, .iload_n 1), (31, 1, .ireturn)]
def zc_58 : List (Nat × Nat × Instr) := [(0, 1, .aload_n 0), (1, 3, .getfield 9), (4, 1, .iload_n 1), (5, 1, .iaload), (6, 1, .iconst (-1)), (7, 3, .if_icmp .ne 13), (10, 1, .aload_n 0), (11, 3, .getfield 15), (14, 1, .iload_n 1), (15, 1, .iaload), (16, 1, .iconst (-1)), (17, 3, .if_icmp .eq 7), (20, 1, .iconst 1), (21, 3, .goto 4), (24, 1, .iconst 0), (25, 1, .ireturn)]
def zc_59 : List (Nat × Nat × Instr) := [(0, 1, .aload_n 0), (1, 3, .getfield 9), (4, 1, .iload_n 1), (5, 1, .iaload), (6, 1, .iconst (-1)), (7, 3, .if_icmp .eq 10), (10, 1, .aload_n 0), (11, 3, .getfield 9), (14, 1, .iload_n 1), (15, 1, .iaload), (16, 1, .ireturn), (17, 1, .aload_n 0), (18, 3, .getfield 15), (21, 1, .iload_n 1), (22, 1, .iaload), (23, 1, .iconst (-1)), (24, 3, .if_icmp .ne 8), (27, 2, .bipush (-104)), (29, 3, .goto 12), (32, 2, .bipush 20), (34, 1, .aload_n 0), (35, 3, .getfield 15), (38, 1, .iload_n 1), (39, 1, .iaload), (40, 1, .iadd), (41, 1, .ireturn)]
def zc_60 : List (Nat × Nat × Instr) := [(0, 1, .aload_n 0), (1, 3, .getfield 9), (4, 1, .iload_n 2), (5, 1, .iaload), (6, 1, .iconst (-1)), (7, 3, .if_icmp .eq 15), (10, 1, .aload_n 1), (11, 1, .aload_n 0), (12, 3, .getfield 9), (15, 1, .iload_n 2), (16, 1, .iaload), (17, 1, .iload_n 2), (18, 3, .invokestatic 107), (21, 1, .ireturn), (22, 1, .aload_n 0), (23, 3, .getfield 15), (26, 1, .iload_n 2), (27, 1, .iaload), (28, 1, .iconst (-1)), (29, 3, .if_icmp .ne 6), (32, 2, .bipush 35), (34, 1, .ireturn), (35, 1, .aload_n 0), (36, 3, .getfield 18), (39, 1, .iload_n 2), (40, 1, .iaload), (41, 1, .iconst (-1)), (42, 3, .if_icmp .ne 8), (45, 2, .bipush 43), (47, 3, .goto 12), (50, 2, .bipush 97), (52, 1, .aload_n 0), (53, 3, .getfield 18), (56, 1, .iload_n 2), (57, 1, .iaload), (58, 1, .iadd), (59, 1, .ireturn)]
def zc_61 : List (Nat × Nat × Instr) := [(0, 1, .iload_n 2), (1, 1, .aload_n 0), (2, 1, .iload_n 1), (3, 3, .invokevirtual 84), (6, 1, .aload_n 0), (7, 1, .iload_n 1), (8, 3, .invokevirtual 88), (11, 3, .invokestatic 64), (14, 3, .if_icmp .eq 6), (17, 2, .bipush 46), (19, 1, .ireturn), (20, 1, .iload_n 1), (21, 1, .aload_n 0), (22, 3, .getfield 110), (25, 3, .if_icmp .ne 6), (28, 2, .bipush 62), (30, 1, .ireturn), (31, 1, .aload_n 0), (32, 3, .getfield 113), (35, 1, .iload_n 1), (36, 1, .iaload), (37, 1, .iconst (-1)), (38, 3, .if_icmp .ne 8), (41, 2, .bipush 111), (43, 3, .goto 12), (46, 2, .bipush 48), (48, 1, .aload_n 0), (49, 3, .getfield 113), (52, 1, .iload_n 1), (53, 1, .iaload), (54, 1, .iadd), (55, 1, .ireturn)]
def zc_62 : List (Nat × Nat × Instr) := [(0, 1, .aload_n 0), (1, 3, .getfield 21), (4, 1, .iconst (-1)), (5, 3, .invokestatic 31), (8, 1, .aload_n 0), (9, 1, .iconst 0), (10, 3, .putfield 27), (13, 1, .aload_n 0), (14, 1, .iload_n 1), (15, 1, .iconst 0), (16, 3, .invokevirtual 116), (19, 1, .iconst 0), (20, 1, .istore_n 3), (21, 1, .iload_n 3), (22, 3, .sipush 384), (25, 3, .if_icmp .ge 114), (28, 1, .iload_n 3), (29, 1, .aload_n 0), (30, 3, .getfield 27), (33, 3, .if_icmp .ge 106), (36, 1, .aload_n 0), (37, 3, .getfield 24), (40, 1, .iload_n 3), (41, 1, .iaload), (42, 2, .bipush 24), (44, 1, .irem), (45, 2, .istore 4), (47, 1, .aload_n 0), (48, 3, .getfield 24), (51, 1, .iload_n 3), (52, 1, .iaload), (53, 2, .bipush 24), (55, 1, .idiv), (56, 2, .istore 5), (58, 1, .aload_n 0), (59, 3, .getfield 21), (62, 1, .aload_n 0), (63, 3, .getfield 24), (66, 1, .iload_n 3), (67, 1, .iaload), (68, 1, .iaload), (69, 1, .iconst 1), (70, 1, .iadd), (71, 2, .istore 6), (73, 1, .aload_n 0), (74, 2, .iload 4), (76, 1, .iconst 1), (77, 1, .isub), (78, 2, .iload 5), (80, 3, .invokestatic 64), (83, 2, .iload 6), (85, 3, .invokevirtual 116), (88, 1, .aload_n 0), (89, 2, .iload 4), (91, 1, .iconst 1), (92, 1, .iadd), (93, 2, .iload 5), (95, 3, .invokestatic 64), (98, 2, .iload 6), (100, 3, .invokevirtual 116), (103, 1, .aload_n 0), (104, 2, .iload 4), (106, 2, .iload 5), (108, 1, .iconst 1), (109, 1, .isub), (110, 3, .invokestatic 64), (113, 2, .iload 6), (115, 3, .invokevirtual 116), (118, 1, .aload_n 0), (119, 2, .iload 4), (121, 2, .iload 5), (123, 1, .iconst 1), (124, 1, .iadd), (125, 3, .invokestatic 64), (128, 2, .iload 6), (130, 3, .invokevirtual 116), (133, 3, .iinc 3 1), (136, 3, .goto (-115)), (139, 1, .aload_n 0), (140, 3, .getfield 21), (143, 1, .iload_n 2), (144, 1, .iaload), (145, 1, .iconst (-1)), (146, 3, .if_icmp .ne 8), (149, 2, .bipush (-104)), (151, 3, .goto 9), (154, 1, .aload_n 0), (155, 3, .getfield 21), (158, 1, .iload_n 2), (159, 1, .iaload), (160, 1, .ireturn)]
def zc_63 : List (Nat × Nat × Instr) := [(0, 1, .iload_n 1), (1, 1, .iconst (-1)), (2, 3, .if_icmp .eq 58), (5, 1, .aload_n 0), (6, 3, .getfield 27), (9, 3, .sipush 384), (12, 3, .if_icmp .ge 48), (15, 1, .aload_n 0), (16, 1, .iload_n 1), (17, 3, .invokevirtual 120), (20, 3, .ifCond .eq 40), (23, 1, .aload_n 0), (24, 3, .getfield 21), (27, 1, .iload_n 1), (28, 1, .iaload), (29, 1, .iconst (-1)), (30, 3, .if_icmp .ne 30), (33, 1, .aload_n 0), (34, 3, .getfield 21), (37, 1, .iload_n 1), (38, 1, .iload_n 2), (39, 1, .iastore), (40, 1, .aload_n 0), (41, 3, .getfield 24), (44, 1, .aload_n 0), (45, 3, .getfield 27), (48, 1, .iload_n 1), (49, 1, .iastore), (50, 1, .aload_n 0), (51, 1, .dup), (52, 3, .getfield 27), (55, 1, .iconst 1), (56, 1, .iadd), (57, 3, .putfield 27), (60, 1, .return_)]
def zc_64 : List (Nat × Nat × Instr) := [(0, 1, .aload_n 0), (1, 3, .invokespecial 5), (4, 1, .aload_n 0), (5, 2, .bipush 7), (7, 3, .anewarray 11), (10, 3, .putfield 13), (13, 1, .aload_n 0), (14, 1, .iconst 0), (15, 3, .putfield 17), (18, 1, .aload_n 0), (19, 1, .iconst 0), (20, 3, .putfield 21), (23, 1, .iconst 0), (24, 1, .istore_n 1), (25, 1, .iload_n 1), (26, 2, .bipush 7), (28, 3, .if_icmp .ge 22), (31, 1, .aload_n 0), (32, 3, .getfield 13), (35, 1, .iload_n 1), (36, 3, .new 11), (39, 1, .dup), (40, 3, .invokespecial 24), (43, 1, .aastore), (44, 3, .iinc 1 1), (47, 3, .goto (-22)), (50, 1, .return_)]
def zc_65 : List (Nat × Nat × Instr) := [(0, 1, .aload_n 0), (1, 3, .getfield 13), (4, 1, .aload_n 0), (5, 3, .getfield 17), (8, 1, .aaload), (9, 1, .aload_n 1), (10, 3, .invokevirtual 25), (13, 1, .return_)]
def zc_66 : List (Nat × Nat × Instr) := [(0, 1, .aload_n 0), (1, 1, .aload_n 0), (2, 3, .getfield 17), (5, 1, .iconst 1), (6, 1, .iadd), (7, 2, .bipush 7), (9, 1, .irem), (10, 3, .putfield 17), (13, 1, .aload_n 0), (14, 1, .aload_n 0), (15, 3, .getfield 21), (18, 1, .iconst 1), (19, 1, .iadd), (20, 2, .bipush 6), (22, 3, .invokestatic 29), (25, 3, .putfield 21), (28, 1, .return_)]
def zc_67 : List (Nat × Nat × Instr) := [(0, 1, .aload_n 1), (1, 1, .aload_n 0), (2, 3, .getfield 13), (5, 1, .aload_n 0), (6, 3, .getfield 17), (9, 1, .aaload), (10, 3, .invokevirtual 25), (13, 1, .return_)]
def zc_68 : List (Nat × Nat × Instr) := [(0, 1, .aload_n 0), (1, 3, .getfield 21), (4, 3, .ifCond .ne 6), (7, 2, .bipush (-104)), (9, 1, .ireturn), (10, 1, .aload_n 0), (11, 1, .dup), (12, 3, .getfield 21), (15, 1, .iconst 1), (16, 1, .isub), (17, 3, .putfield 21), (20, 1, .aload_n 0), (21, 1, .aload_n 0), (22, 3, .getfield 17), (25, 2, .bipush 7), (27, 1, .iadd), (28, 1, .iconst 1), (29, 1, .isub), (30, 2, .bipush 7), (32, 1, .irem), (33, 3, .putfield 17), (36, 1, .aload_n 1), (37, 1, .aload_n 0), (38, 3, .getfield 13), (41, 1, .aload_n 0), (42, 3, .getfield 17), (45, 1, .aaload), (46, 3, .invokevirtual 25), (49, 1, .aload_n 0), (50, 3, .getfield 21), (53, 1, .ireturn)]
def zc_69 : List (Nat × Nat × Instr) := [(0, 1, .aload_n 0), (1, 1, .iconst 0), (2, 3, .putfield 21), (5, 1, .return_)]
def zc_70 : List (Nat × Nat × Instr) := [(0, 1, .aload_n 0), (1, 3, .invokespecial 3), (4, 1, .aload_n 0), (5, 2, .bipush 12), (7, 2, .newarray .int), (9, 3, .putfield 9), (12, 1, .return_)]
def zc_71 : List (Nat × Nat × Instr) := [(0, 1, .aload_n 1), (1, 3, .invokestatic 15), (4, 1, .istore_n 2), (5, 1, .iload_n 2), (6, 1, .iconst (-1)), (7, 3, .if_icmp .ne 6), (10, 2, .bipush (-104)), (12, 1, .ireturn), (13, 1, .aload_n 1), (14, 3, .invokestatic 19), (17, 1, .istore_n 3), (18, 1, .iload_n 3), (19, 1, .iconst (-1)), (20, 3, .if_icmp .ne 6), (23, 2, .bipush (-103)), (25, 1, .ireturn), (26, 1, .aload_n 0), (27, 1, .aload_n 1), (28, 1, .iload_n 2), (29, 3, .invokevirtual 22), (32, 2, .istore 4), (34, 2, .iload 4), (36, 1, .iconst (-1)), (37, 3, .if_icmp .ne 6), (40, 2, .bipush (-105)), (42, 1, .ireturn), (43, 1, .aload_n 1), (44, 3, .getfield 26), (47, 1, .iload_n 2), (48, 1, .iload_n 3), (49, 1, .iastore), (50, 1, .aload_n 1), (51, 3, .getfield 31), (54, 2, .iload 4), (56, 1, .iload_n 3), (57, 1, .iastore), (58, 1, .iload_n 2), (59, 1, .ireturn)]
def zc_72 : List (Nat × Nat × Instr) := [(0, 1, .iconst (-1)), (1, 1, .istore_n 1), (2, 1, .iconst 0), (3, 1, .istore_n 2), (4, 1, .iconst 0), (5, 1, .istore_n 3), (6, 1, .iload_n 3), (7, 1, .aload_n 0), (8, 3, .getfield 34), (11, 3, .if_icmp .ge 64), (14, 1, .aload_n 0), (15, 1, .iload_n 3), (16, 3, .invokestatic 38), (19, 3, .invokestatic 43), (22, 2, .istore 4), (24, 1, .iconst 2), (25, 2, .iload 4), (27, 1, .imul), (28, 1, .aload_n 0), (29, 3, .getfield 49), (32, 1, .isub), (33, 3, .invokestatic 52), (36, 2, .istore 5), (38, 1, .aload_n 0), (39, 3, .getfield 26), (42, 1, .iload_n 3), (43, 1, .iaload), (44, 1, .iconst (-1)), (45, 3, .if_icmp .ne 24), (48, 2, .iload 4), (50, 3, .ifCond .le 19), (53, 1, .iload_n 1), (54, 1, .iconst (-1)), (55, 3, .if_icmp .eq 9), (58, 2, .iload 5), (60, 1, .iload_n 2), (61, 3, .if_icmp .ge 8), (64, 1, .iload_n 3), (65, 1, .istore_n 1), (66, 2, .iload 5), (68, 1, .istore_n 2), (69, 3, .iinc 3 1), (72, 3, .goto (-66)), (75, 1, .iload_n 1), (76, 1, .ireturn)]
def zc_73 : List (Nat × Nat × Instr) := [(0, 1, .iconst 0), (1, 1, .istore_n 1), (2, 1, .iconst 0), (3, 1, .istore_n 2), (4, 1, .iload_n 2), (5, 1, .aload_n 0), (6, 3, .getfield 49), (9, 3, .if_icmp .ge 17), (12, 1, .iload_n 1), (13, 1, .aload_n 0), (14, 1, .iload_n 2), (15, 3, .invokevirtual 57), (18, 1, .ior), (19, 1, .istore_n 1), (20, 3, .iinc 2 1), (23, 3, .goto (-19)), (26, 1, .iconst 0), (27, 1, .istore_n 2), (28, 1, .iload_n 2), (29, 1, .aload_n 0), (30, 3, .getfield 34), (33, 3, .if_icmp .ge 34), (36, 1, .iload_n 1), (37, 1, .aload_n 0), (38, 3, .getfield 26), (41, 1, .iload_n 2), (42, 1, .iaload), (43, 1, .iconst (-1)), (44, 3, .if_icmp .ne 7), (47, 1, .iconst 0), (48, 3, .goto 11), (51, 1, .iconst 1), (52, 1, .aload_n 0), (53, 3, .getfield 26), (56, 1, .iload_n 2), (57, 1, .iaload), (58, 1, .ishl), (59, 1, .ior), (60, 1, .istore_n 1), (61, 3, .iinc 2 1), (64, 3, .goto (-36)), (67, 1, .iconst 0), (68, 1, .istore_n 2), (69, 1, .iload_n 2), (70, 2, .bipush 6), (72, 3, .if_icmp .ge 19), (75, 1, .iload_n 1), (76, 1, .iload_n 2), (77, 3, .invokestatic 60), (80, 3, .ifCond .ne 5), (83, 1, .iload_n 2), (84, 1, .ireturn), (85, 3, .iinc 2 1), (88, 3, .goto (-19)), (91, 1, .iconst (-1)), (92, 1, .ireturn)]
def zc_74 : List (Nat × Nat × Instr) := [(0, 1, .aload_n 1), (1, 1, .aload_n 1), (2, 3, .invokestatic 64), (5, 1, .iconst 0), (6, 1, .iconst 0), (7, 1, .iload_n 2), (8, 3, .invokestatic 67), (11, 1, .istore_n 3), (12, 1, .aload_n 1), (13, 1, .aload_n 1), (14, 3, .getfield 71), (17, 1, .aload_n 0), (18, 3, .getfield 9), (21, 3, .invokestatic 74), (24, 1, .iconst (-1)), (25, 2, .istore 4), (27, 1, .iconst 0), (28, 2, .istore 5), (30, 2, .iload 5), (32, 1, .aload_n 1), (33, 3, .getfield 49), (36, 3, .if_icmp .ge 68), (39, 1, .iload_n 3), (40, 2, .iload 5), (42, 3, .invokestatic 60), (45, 3, .ifCond .eq 18), (48, 1, .aload_n 1), (49, 3, .getfield 31), (52, 2, .iload 5), (54, 1, .iaload), (55, 1, .iconst (-1)), (56, 3, .if_icmp .ne 7), (59, 1, .iconst 1), (60, 3, .goto 4), (63, 1, .iconst 0), (64, 2, .istore 6), (66, 2, .iload 6), (68, 3, .ifCond .eq 30), (71, 2, .iload 4), (73, 1, .iconst (-1)), (74, 3, .if_icmp .eq 20), (77, 1, .aload_n 0), (78, 3, .getfield 9), (81, 2, .iload 5), (83, 1, .iaload), (84, 1, .aload_n 0), (85, 3, .getfield 9), (88, 2, .iload 4), (90, 1, .iaload), (91, 3, .if_icmp .le 7), (94, 2, .iload 5), (96, 2, .istore 4), (98, 3, .iinc 5 1), (101, 3, .goto (-71)), (104, 2, .iload 4), (106, 1, .ireturn)]
def zc_75 : List (Nat × Nat × Instr) := [(0, 1, .iload_n 1), (1, 2, .istore 5), (3, 1, .iconst 1), (4, 2, .istore 6), (6, 2, .iload 6), (8, 1, .aload_n 0), (9, 3, .getfield 9), (12, 3, .if_icmp .ge 95), (15, 1, .aload_n 0), (16, 2, .iload 5), (18, 3, .invokestatic 15), (21, 1, .iload_n 2), (22, 1, .iconst (-1)), (23, 1, .ixor), (24, 1, .iand), (25, 1, .iload_n 3), (26, 1, .ior), (27, 2, .istore 7), (29, 1, .iconst 0), (30, 2, .istore 8), (32, 2, .iload 8), (34, 1, .aload_n 0), (35, 3, .getfield 21), (38, 3, .if_icmp .ge 63), (41, 1, .iconst 1), (42, 1, .aload_n 0), (43, 3, .getfield 24), (46, 2, .iload 8), (48, 1, .iaload), (49, 1, .ishl), (50, 1, .iconst 1), (51, 1, .aload_n 0), (52, 3, .getfield 28), (55, 2, .iload 8), (57, 1, .iaload), (58, 1, .ishl), (59, 1, .ior), (60, 2, .istore 9), (62, 2, .iload 8), (64, 2, .iload 4), (66, 3, .if_icmp .eq 29), (69, 2, .iload 9), (71, 2, .iload 5), (73, 1, .iand), (74, 3, .ifCond .eq 21), (77, 1, .aload_n 0), (78, 2, .iload 8), (80, 2, .iload 7), (82, 3, .invokevirtual 31), (85, 3, .ifCond .eq 10), (88, 2, .iload 5), (90, 2, .iload 9), (92, 1, .ior), (93, 2, .istore 5), (95, 3, .iinc 8 1), (98, 3, .goto (-66)), (101, 3, .iinc 6 1), (104, 3, .goto (-98)), (107, 2, .iload 5), (109, 1, .ireturn)]
def zc_76 : List (Nat × Nat × Instr) := [(0, 1, .aload_n 0), (1, 1, .aload_n 0), (2, 3, .invokestatic 35), (5, 1, .iload_n 1), (6, 1, .iload_n 2), (7, 1, .iconst (-1)), (8, 3, .invokestatic 39), (11, 1, .ireturn)]
def zc_77 : List (Nat × Nat × Instr) := [(0, 1, .aload_n 0), (1, 3, .getfield 9), (4, 3, .ifCond .ne 7), (7, 1, .iconst 0), (8, 3, .goto 9), (11, 1, .iconst 1), (12, 1, .aload_n 0), (13, 3, .getfield 43), (16, 1, .ishl), (17, 1, .ireturn)]
def zc_78 : List (Nat × Nat × Instr) := [(0, 1, .iconst 0), (1, 1, .istore_n 2), (2, 1, .iconst 0), (3, 1, .istore_n 3), (4, 1, .iload_n 3), (5, 1, .aload_n 0), (6, 3, .getfield 9), (9, 3, .if_icmp .ge 25), (12, 1, .iload_n 1), (13, 1, .iload_n 3), (14, 3, .invokestatic 46), (17, 3, .ifCond .eq 11), (20, 1, .iload_n 2), (21, 1, .aload_n 0), (22, 1, .iload_n 3), (23, 3, .invokevirtual 49), (26, 1, .ior), (27, 1, .istore_n 2), (28, 3, .iinc 3 1), (31, 3, .goto (-27)), (34, 1, .iload_n 2), (35, 1, .ireturn)]
def zc_79 : List (Nat × Nat × Instr) := [(0, 1, .aload_n 0), (1, 3, .invokestatic 35), (4, 1, .istore_n 2), (5, 1, .aload_n 0), (6, 1, .iload_n 2), (7, 1, .iconst 0), (8, 2, .bipush 63), (10, 1, .iconst (-1)), (11, 3, .invokestatic 39), (14, 1, .istore_n 3), (15, 1, .iload_n 3), (16, 1, .aload_n 0), (17, 1, .iload_n 2), (18, 1, .iconst 0), (19, 2, .bipush 63), (21, 1, .iload_n 1), (22, 3, .invokestatic 39), (25, 1, .iconst (-1)), (26, 1, .ixor), (27, 1, .iand), (28, 1, .ireturn)]
def zc_80 : List (Nat × Nat × Instr) := [(0, 1, .iconst 0), (1, 1, .istore_n 2), (2, 1, .iconst 0), (3, 1, .istore_n 3), (4, 1, .iconst 0), (5, 2, .istore 4), (7, 2, .iload 4), (9, 1, .aload_n 0), (10, 3, .getfield 9), (13, 3, .if_icmp .ge 36), (16, 1, .iload_n 3), (17, 2, .iload 4), (19, 3, .invokestatic 46), (22, 3, .ifCond .ne 21), (25, 1, .iload_n 3), (26, 1, .aload_n 0), (27, 1, .iconst 1), (28, 2, .iload 4), (30, 1, .ishl), (31, 1, .iconst 0), (32, 2, .bipush 63), (34, 1, .iload_n 1), (35, 3, .invokestatic 39), (38, 1, .ior), (39, 1, .istore_n 3), (40, 3, .iinc 2 1), (43, 3, .iinc 4 1), (46, 3, .goto (-39)), (49, 1, .iload_n 2), (50, 1, .ireturn)]
def zc_81 : List (Nat × Nat × Instr) := [(0, 1, .aload_n 0), (1, 1, .iconst (-1)), (2, 3, .invokestatic 53), (5, 1, .istore_n 1), (6, 1, .iconst 0), (7, 1, .istore_n 2), (8, 1, .iconst 0), (9, 1, .istore_n 3), (10, 1, .iload_n 3), (11, 1, .aload_n 0), (12, 3, .getfield 21), (15, 3, .if_icmp .ge 21), (18, 1, .aload_n 0), (19, 1, .iload_n 3), (20, 3, .invokestatic 53), (23, 1, .iload_n 1), (24, 3, .if_icmp .le 6), (27, 3, .iinc 2 1), (30, 3, .iinc 3 1), (33, 3, .goto (-23)), (36, 1, .iload_n 2), (37, 1, .ireturn)]
def zc_82 : List (Nat × Nat × Instr) := [(0, 1, .aload_n 2), (1, 1, .iconst (-1)), (2, 3, .invokestatic 56), (5, 1, .aload_n 0), (6, 1, .iload_n 1), (7, 3, .invokevirtual 62), (10, 3, .ifCond .ne 4), (13, 1, .return_), (14, 1, .aload_n 2), (15, 1, .iload_n 1), (16, 1, .iconst 0), (17, 1, .iastore), (18, 1, .iconst 0), (19, 1, .istore_n 3), (20, 1, .iload_n 3), (21, 1, .aload_n 0), (22, 3, .getfield 9), (25, 3, .if_icmp .ge 65), (28, 1, .iconst 0), (29, 2, .istore 4), (31, 2, .iload 4), (33, 1, .aload_n 0), (34, 3, .getfield 21), (37, 3, .if_icmp .ge 47), (40, 1, .aload_n 2), (41, 1, .aload_n 0), (42, 3, .getfield 24), (45, 2, .iload 4), (47, 1, .iaload), (48, 1, .aload_n 0), (49, 3, .getfield 28), (52, 2, .iload 4), (54, 1, .iaload), (55, 1, .iload_n 3), (56, 3, .invokestatic 66), (59, 1, .aload_n 2), (60, 1, .aload_n 0), (61, 3, .getfield 28), (64, 2, .iload 4), (66, 1, .iaload), (67, 1, .aload_n 0), (68, 3, .getfield 24), (71, 2, .iload 4), (73, 1, .iaload), (74, 1, .iload_n 3), (75, 3, .invokestatic 66), (78, 3, .iinc 4 1), (81, 3, .goto (-50)), (84, 3, .iinc 3 1), (87, 3, .goto (-67)), (90, 1, .return_)]
def zc_83 : List (Nat × Nat × Instr) := [(0, 1, .aload_n 0), (1, 1, .iload_n 1), (2, 1, .iaload), (3, 1, .iload_n 3), (4, 3, .if_icmp .ne 16), (7, 1, .aload_n 0), (8, 1, .iload_n 2), (9, 1, .iaload), (10, 1, .iconst (-1)), (11, 3, .if_icmp .ne 9), (14, 1, .aload_n 0), (15, 1, .iload_n 2), (16, 1, .iload_n 3), (17, 1, .iconst 1), (18, 1, .iadd), (19, 1, .iastore), (20, 1, .return_)]
def zc_84 : List (Nat × Nat × Instr) := [(0, 1, .aload_n 0), (1, 3, .invokespecial 3), (4, 1, .aload_n 0), (5, 2, .bipush 60), (7, 2, .newarray .int), (9, 3, .putfield 11), (12, 1, .aload_n 0), (13, 2, .bipush 20), (15, 2, .newarray .int), (17, 3, .putfield 15), (20, 1, .aload_n 0), (21, 2, .bipush 20), (23, 2, .newarray .int), (25, 3, .putfield 18), (28, 1, .aload_n 0), (29, 2, .bipush 20), (31, 1, .iconst 4), (32, 4, .multianewarray 21 2), (36, 3, .putfield 23), (39, 1, .aload_n 0), (40, 1, .iconst 0), (41, 3, .putfield 26), (44, 1, .aload_n 0), (45, 1, .iconst 0), (46, 3, .putfield 30), (49, 1, .aload_n 0), (50, 1, .iconst 0), (51, 3, .putfield 33), (54, 1, .aload_n 0), (55, 2, .bipush (-104)), (57, 3, .putfield 36), (60, 1, .return_)]
def zc_85 : List (Nat × Nat × Instr) := [(0, 1, .iconst 0), (1, 1, .istore_n 2), (2, 2, .bipush 24), (4, 1, .istore_n 3), (5, 1, .iload_n 3), (6, 3, .ifCond .lt 53), (9, 1, .iload_n 1), (10, 1, .iload_n 3), (11, 1, .iushr), (12, 3, .sipush 255), (15, 1, .iand), (16, 2, .istore 4), (18, 2, .iload 4), (20, 3, .ifCond .eq 20), (23, 2, .iload 4), (25, 2, .bipush 33), (27, 3, .if_icmp .lt 10), (30, 2, .iload 4), (32, 2, .bipush 126), (34, 3, .if_icmp .le 6), (37, 2, .bipush (-102)), (39, 1, .ireturn), (40, 1, .iload_n 2), (41, 2, .iload 4), (43, 3, .ifCond .ne 7), (46, 1, .iconst 0), (47, 3, .goto 4), (50, 1, .iconst 1), (51, 1, .iadd), (52, 1, .istore_n 2), (53, 3, .iinc 3 (-8)), (56, 3, .goto (-51)), (59, 1, .aload_n 0), (60, 3, .getfield 30), (63, 1, .iload_n 2), (64, 1, .iadd), (65, 2, .bipush 60), (67, 3, .if_icmp .le 6), (70, 2, .bipush (-103)), (72, 1, .ireturn), (73, 2, .bipush 24), (75, 1, .istore_n 3), (76, 1, .iload_n 3), (77, 3, .ifCond .lt 20), (80, 1, .aload_n 0), (81, 1, .iload_n 1), (82, 1, .iload_n 3), (83, 1, .iushr), (84, 3, .sipush 255), (87, 1, .iand), (88, 3, .invokevirtual 39), (91, 3, .iinc 3 (-8)), (94, 3, .goto (-18)), (97, 1, .aload_n 0), (98, 3, .getfield 30), (101, 1, .ireturn)]
def zc_86 : List (Nat × Nat × Instr) := [(0, 1, .iload_n 1), (1, 3, .ifCond .eq 32), (4, 1, .aload_n 0), (5, 3, .getfield 30), (8, 2, .bipush 60), (10, 3, .if_icmp .ge 23), (13, 1, .aload_n 0), (14, 3, .getfield 11), (17, 1, .aload_n 0), (18, 3, .getfield 30), (21, 1, .iload_n 1), (22, 1, .iastore), (23, 1, .aload_n 0), (24, 1, .dup), (25, 3, .getfield 30), (28, 1, .iconst 1), (29, 1, .iadd), (30, 3, .putfield 30), (33, 1, .return_)]
def zc_87 : List (Nat × Nat × Instr) := [(0, 1, .aload_n 0), (1, 3, .invokevirtual 43), (4, 1, .istore_n 1), (5, 1, .aload_n 0), (6, 1, .iload_n 1), (7, 3, .ifCond .eq 8), (10, 2, .bipush (-104)), (12, 3, .goto 7), (15, 1, .aload_n 0), (16, 3, .getfield 26), (19, 3, .putfield 36), (22, 1, .aload_n 0), (23, 1, .iconst 0), (24, 3, .putfield 30), (27, 1, .iload_n 1), (28, 1, .ireturn)]
def zc_88 : List (Nat × Nat × Instr) := [(0, 1, .aload_n 0), (1, 1, .iconst 0), (2, 3, .putfield 26), (5, 1, .iconst 0), (6, 1, .istore_n 1), (7, 1, .iload_n 1), (8, 2, .bipush 20), (10, 3, .if_icmp .ge 54), (13, 1, .iload_n 1), (14, 3, .ifCond .le 14), (17, 1, .aload_n 0), (18, 2, .bipush 59), (20, 3, .invokevirtual 47), (23, 3, .ifCond .ne 5), (26, 1, .iconst 0), (27, 1, .ireturn), (28, 1, .aload_n 0), (29, 1, .iload_n 1), (30, 3, .invokevirtual 51), (33, 3, .ifCond .ne 5), (36, 1, .iconst 0), (37, 1, .ireturn), (38, 1, .aload_n 0), (39, 3, .getfield 26), (42, 1, .aload_n 0), (43, 3, .getfield 30), (46, 3, .if_icmp .ne 12), (49, 1, .aload_n 0), (50, 1, .iload_n 1), (51, 1, .iconst 1), (52, 1, .iadd), (53, 3, .putfield 33), (56, 1, .iconst 1), (57, 1, .ireturn), (58, 3, .iinc 1 1), (61, 3, .goto (-54)), (64, 1, .aload_n 0), (65, 2, .bipush 59), (67, 3, .invokevirtual 47), (70, 1, .pop), (71, 1, .iconst 0), (72, 1, .ireturn)]
def zc_89 : List (Nat × Nat × Instr) := [(0, 1, .aload_n 0), (1, 1, .aload_n 0), (2, 3, .getfield 26), (5, 3, .invokevirtual 54), (8, 1, .istore_n 2), (9, 1, .iload_n 2), (10, 3, .invokestatic 58), (13, 1, .istore_n 3), (14, 1, .iload_n 3), (15, 3, .ifCond .ne 5), (18, 1, .iconst 0), (19, 1, .ireturn), (20, 1, .aload_n 0), (21, 3, .getfield 15), (24, 1, .iload_n 1), (25, 1, .iload_n 2), (26, 1, .iastore), (27, 1, .aload_n 0), (28, 3, .getfield 18), (31, 1, .iload_n 1), (32, 1, .aload_n 0), (33, 3, .getfield 26), (36, 1, .iastore), (37, 1, .aload_n 0), (38, 1, .dup), (39, 3, .getfield 26), (42, 1, .iconst 1), (43, 1, .iadd), (44, 3, .putfield 26), (47, 1, .iconst 0), (48, 2, .istore 4), (50, 2, .iload 4), (52, 1, .iload_n 3), (53, 3, .if_icmp .ge 54), (56, 2, .iload 4), (58, 3, .ifCond .le 14), (61, 1, .aload_n 0), (62, 2, .bipush 44), (64, 3, .invokevirtual 47), (67, 3, .ifCond .ne 5), (70, 1, .iconst 0), (71, 1, .ireturn), (72, 1, .aload_n 0), (73, 1, .aload_n 0), (74, 3, .getfield 26), (77, 3, .invokevirtual 54), (80, 3, .invokestatic 61), (83, 3, .ifCond .ne 5), (86, 1, .iconst 0), (87, 1, .ireturn), (88, 1, .aload_n 0), (89, 3, .getfield 23), (92, 1, .iload_n 1), (93, 1, .aaload), (94, 2, .iload 4), (96, 1, .aload_n 0), (97, 3, .invokevirtual 64), (100, 1, .iastore), (101, 3, .iinc 4 1), (104, 3, .goto (-54)), (107, 1, .iconst 1), (108, 1, .ireturn)]
def zc_90 : List (Nat × Nat × Instr) := [(0, 1, .iload_n 0), (1, 51, .lookupswitch 57 #[(99, 53), (101, 55), (107, 53), (108, 53), (114, 51)]), (52, 1, .iconst 4), (53, 1, .ireturn), (54, 1, .iconst 2), (55, 1, .ireturn), (56, 1, .iconst 1), (57, 1, .ireturn), (58, 1, .iconst 0), (59, 1, .ireturn)]
def zc_91 : List (Nat × Nat × Instr) := [(0, 1, .aload_n 0), (1, 1, .aload_n 0), (2, 3, .getfield 26), (5, 3, .invokevirtual 54), (8, 2, .bipush 48), (10, 1, .isub), (11, 1, .istore_n 1), (12, 1, .aload_n 0), (13, 1, .dup), (14, 3, .getfield 26), (17, 1, .iconst 1), (18, 1, .iadd), (19, 3, .putfield 26), (22, 1, .aload_n 0), (23, 1, .aload_n 0), (24, 3, .getfield 26), (27, 3, .invokevirtual 54), (30, 3, .invokestatic 61), (33, 3, .ifCond .eq 30), (36, 2, .bipush 10), (38, 1, .iload_n 1), (39, 1, .imul), (40, 1, .aload_n 0), (41, 1, .aload_n 0), (42, 3, .getfield 26), (45, 3, .invokevirtual 54), (48, 1, .iadd), (49, 2, .bipush 48), (51, 1, .isub), (52, 1, .istore_n 1), (53, 1, .aload_n 0), (54, 1, .dup), (55, 3, .getfield 26), (58, 1, .iconst 1), (59, 1, .iadd), (60, 3, .putfield 26), (63, 1, .iload_n 1), (64, 1, .ireturn)]
def zc_92 : List (Nat × Nat × Instr) := [(0, 1, .aload_n 0), (1, 1, .aload_n 0), (2, 3, .getfield 26), (5, 3, .invokevirtual 54), (8, 1, .iload_n 1), (9, 3, .if_icmp .eq 5), (12, 1, .iconst 0), (13, 1, .ireturn), (14, 1, .aload_n 0), (15, 1, .dup), (16, 3, .getfield 26), (19, 1, .iconst 1), (20, 1, .iadd), (21, 3, .putfield 26), (24, 1, .iconst 1), (25, 1, .ireturn)]
def zc_93 : List (Nat × Nat × Instr) := [(0, 1, .iload_n 1), (1, 3, .ifCond .lt 20), (4, 1, .iload_n 1), (5, 1, .aload_n 0), (6, 3, .getfield 30), (9, 3, .if_icmp .ge 12), (12, 1, .aload_n 0), (13, 3, .getfield 11), (16, 1, .iload_n 1), (17, 1, .iaload), (18, 3, .goto 4), (21, 1, .iconst 0), (22, 1, .ireturn)]
def zc_94 : List (Nat × Nat × Instr) := [(0, 1, .iload_n 0), (1, 2, .bipush 48), (3, 3, .if_icmp .lt 13), (6, 1, .iload_n 0), (7, 2, .bipush 57), (9, 3, .if_icmp .gt 7), (12, 1, .iconst 1), (13, 3, .goto 4), (16, 1, .iconst 0), (17, 1, .ireturn)]
def zc_95 : List (Nat × Nat × Instr) := [(0, 1, .iconst 0), (1, 1, .istore_n 2), (2, 1, .iload_n 2), (3, 1, .aload_n 0), (4, 3, .getfield 33), (7, 3, .if_icmp .ge 48), (10, 1, .aload_n 1), (11, 1, .aload_n 0), (12, 3, .getfield 15), (15, 1, .iload_n 2), (16, 1, .iaload), (17, 1, .aload_n 0), (18, 3, .getfield 23), (21, 1, .iload_n 2), (22, 1, .aaload), (23, 3, .invokestatic 68), (26, 1, .istore_n 3), (27, 1, .iload_n 3), (28, 3, .ifCond .ge 21), (31, 1, .iload_n 3), (32, 2, .bipush (-104)), (34, 3, .if_icmp .eq 15), (37, 1, .aload_n 0), (38, 1, .aload_n 0), (39, 3, .getfield 18), (42, 1, .iload_n 2), (43, 1, .iaload), (44, 3, .putfield 36), (47, 1, .iconst 0), (48, 1, .ireturn), (49, 3, .iinc 2 1), (52, 3, .goto (-50)), (55, 1, .iconst 1), (56, 1, .ireturn)]
def zc_96 : List (Nat × Nat × Instr) := [(0, 1, .iload_n 1), (1, 43, .lookupswitch 93 #[(99, 60), (107, 82), (108, 71), (114, 43)]), (44, 1, .aload_n 0), (45, 1, .aload_n 2), (46, 1, .iconst 0), (47, 1, .iaload), (48, 1, .aload_n 2), (49, 1, .iconst 1), (50, 1, .iaload), (51, 1, .aload_n 2), (52, 1, .iconst 2), (53, 1, .iaload), (54, 1, .aload_n 2), (55, 1, .iconst 3), (56, 1, .iaload), (57, 3, .invokevirtual 72), (60, 1, .ireturn), (61, 1, .aload_n 0), (62, 1, .aload_n 2), (63, 1, .iconst 0), (64, 1, .iaload), (65, 1, .aload_n 2), (66, 1, .iconst 1), (67, 1, .iaload), (68, 3, .invokevirtual 78), (71, 1, .ireturn), (72, 1, .aload_n 0), (73, 1, .aload_n 2), (74, 1, .iconst 0), (75, 1, .iaload), (76, 1, .aload_n 2), (77, 1, .iconst 1), (78, 1, .iaload), (79, 3, .invokevirtual 82), (82, 1, .ireturn), (83, 1, .aload_n 0), (84, 1, .aload_n 2), (85, 1, .iconst 0), (86, 1, .iaload), (87, 1, .aload_n 2), (88, 1, .iconst 1), (89, 1, .iaload), (90, 3, .invokevirtual 85), (93, 1, .ireturn), (94, 1, .aload_n 0), (95, 1, .aload_n 2), (96, 1, .iconst 0), (97, 1, .iaload), (98, 3, .invokevirtual 88), (101, 1, .ireturn)]
def zc_97 : List (Nat × Nat × Instr) := [(0, 1, .aload_n 0), (1, 3, .invokespecial 5), (4, 1, .aload_n 0), (5, 3, .sipush 768), (8, 2, .newarray .int), (10, 3, .putfield 11), (13, 1, .aload_n 0), (14, 3, .sipush 768), (17, 2, .newarray .int), (19, 3, .putfield 15), (22, 1, .aload_n 0), (23, 3, .sipush 768), (26, 2, .newarray .int), (28, 3, .putfield 18), (31, 1, .aload_n 0), (32, 3, .sipush 768), (35, 2, .newarray .int), (37, 3, .putfield 21), (40, 1, .aload_n 0), (41, 3, .sipush 768), (44, 2, .newarray .int), (46, 3, .putfield 24), (49, 1, .aload_n 0), (50, 2, .bipush 12), (52, 2, .newarray .int), (54, 3, .putfield 27), (57, 1, .aload_n 0), (58, 1, .iconst 0), (59, 3, .putfield 30), (62, 1, .return_)]
def zc_98 : List (Nat × Nat × Instr) := [(0, 1, .aload_n 0), (1, 3, .getfield 24), (4, 1, .iconst 0), (5, 3, .invokestatic 34), (8, 1, .aload_n 0), (9, 3, .getfield 27), (12, 1, .iconst (-1)), (13, 3, .invokestatic 34), (16, 1, .aload_n 0), (17, 1, .iconst 0), (18, 3, .putfield 30), (21, 1, .aload_n 1), (22, 3, .getfield 40), (25, 3, .ifCond .ne 4), (28, 1, .return_), (29, 1, .aload_n 0), (30, 1, .aload_n 1), (31, 1, .aload_n 1), (32, 3, .getfield 44), (35, 1, .iconst (-1)), (36, 3, .invokevirtual 47), (39, 1, .iconst 0), (40, 1, .istore_n 2), (41, 1, .iload_n 2), (42, 3, .sipush 768), (45, 3, .if_icmp .ge 23), (48, 1, .iload_n 2), (49, 1, .aload_n 0), (50, 3, .getfield 30), (53, 3, .if_icmp .ge 15), (56, 1, .aload_n 0), (57, 1, .aload_n 1), (58, 1, .iload_n 2), (59, 3, .invokevirtual 51), (62, 3, .iinc 2 1), (65, 3, .goto (-24)), (68, 1, .return_)]
def zc_99 : List (Nat × Nat × Instr) := [(0, 1, .iconst 0), (1, 1, .istore_n 3), (2, 1, .iload_n 3), (3, 1, .aload_n 1), (4, 3, .getfield 40), (7, 3, .if_icmp .ge 50), (10, 1, .aload_n 1), (11, 1, .aload_n 0), (12, 3, .getfield 11), (15, 1, .iload_n 2), (16, 1, .iaload), (17, 1, .iload_n 3), (18, 3, .invokevirtual 55), (21, 2, .istore 4), (23, 2, .iload 4), (25, 1, .iconst (-1)), (26, 3, .if_icmp .eq 25), (29, 1, .aload_n 1), (30, 2, .iload 4), (32, 1, .aload_n 0), (33, 3, .getfield 15), (36, 1, .iload_n 2), (37, 1, .iaload), (38, 3, .invokevirtual 59), (41, 3, .ifCond .eq 10), (44, 1, .aload_n 0), (45, 1, .aload_n 1), (46, 1, .iload_n 3), (47, 1, .iload_n 2), (48, 3, .invokevirtual 47), (51, 3, .iinc 3 1), (54, 3, .goto (-52)), (57, 1, .return_)]
def zc_100 : List (Nat × Nat × Instr) := [(0, 1, .aload_n 1), (1, 1, .iload_n 2), (2, 3, .invokevirtual 63), (5, 1, .iload_n 3), (6, 1, .iconst (-1)), (7, 3, .if_icmp .ne 7), (10, 1, .iconst 0), (11, 3, .goto 9), (14, 1, .aload_n 0), (15, 3, .getfield 15), (18, 1, .iload_n 3), (19, 1, .iaload), (20, 1, .ior), (21, 2, .istore 4), (23, 1, .iload_n 2), (24, 2, .bipush 64), (26, 1, .imul), (27, 2, .iload 4), (29, 1, .iadd), (30, 2, .istore 5), (32, 1, .aload_n 0), (33, 3, .getfield 24), (36, 2, .iload 5), (38, 1, .iaload), (39, 3, .ifCond .ne 13), (42, 1, .aload_n 0), (43, 3, .getfield 30), (46, 3, .sipush 768), (49, 3, .if_icmp .lt 4), (52, 1, .return_), (53, 1, .aload_n 0), (54, 3, .getfield 24), (57, 2, .iload 5), (59, 1, .iconst 1), (60, 1, .iastore), (61, 1, .aload_n 0), (62, 3, .getfield 11), (65, 1, .aload_n 0), (66, 3, .getfield 30), (69, 1, .iload_n 2), (70, 1, .iastore), (71, 1, .aload_n 0), (72, 3, .getfield 15), (75, 1, .aload_n 0), (76, 3, .getfield 30), (79, 2, .iload 4), (81, 1, .iastore), (82, 1, .aload_n 0), (83, 3, .getfield 18), (86, 1, .aload_n 0), (87, 3, .getfield 30), (90, 1, .iload_n 3), (91, 1, .iastore), (92, 1, .aload_n 0), (93, 3, .getfield 21), (96, 1, .aload_n 0), (97, 3, .getfield 30), (100, 1, .iload_n 3), (101, 1, .iconst (-1)), (102, 3, .if_icmp .ne 7), (105, 1, .iconst 0), (106, 3, .goto 11), (109, 1, .aload_n 0), (110, 3, .getfield 21), (113, 1, .iload_n 3), (114, 1, .iaload), (115, 1, .iconst 1), (116, 1, .iadd), (117, 1, .iastore), (118, 1, .aload_n 0), (119, 3, .getfield 27), (122, 1, .iload_n 2), (123, 1, .iaload), (124, 1, .iconst (-1)), (125, 3, .if_icmp .ne 13), (128, 1, .aload_n 0), (129, 3, .getfield 27), (132, 1, .iload_n 2), (133, 1, .aload_n 0), (134, 3, .getfield 30), (137, 1, .iastore), (138, 1, .aload_n 0), (139, 1, .dup), (140, 3, .getfield 30), (143, 1, .iconst 1), (144, 1, .iadd), (145, 3, .putfield 30), (148, 1, .return_)]
def zc_101 : List (Nat × Nat × Instr) := [(0, 1, .aload_n 0), (1, 3, .getfield 27), (4, 1, .iload_n 1), (5, 1, .iaload), (6, 1, .iconst (-1)), (7, 3, .if_icmp .ne 7), (10, 1, .iconst (-1)), (11, 3, .goto 14), (14, 1, .aload_n 0), (15, 3, .getfield 21), (18, 1, .aload_n 0), (19, 3, .getfield 27), (22, 1, .iload_n 1), (23, 1, .iaload), (24, 1, .iaload), (25, 1, .ireturn)]
def zc_102 : List (Nat × Nat × Instr) := [(0, 1, .aload_n 0), (1, 3, .getfield 27), (4, 1, .iload_n 1), (5, 1, .iaload), (6, 1, .istore_n 3), (7, 1, .aload_n 0), (8, 1, .iload_n 1), (9, 3, .invokevirtual 67), (12, 2, .istore 4), (14, 2, .iload 4), (16, 1, .iload_n 2), (17, 3, .if_icmp .le 21), (20, 1, .iload_n 3), (21, 1, .iconst (-1)), (22, 3, .if_icmp .eq 16), (25, 1, .aload_n 0), (26, 3, .getfield 18), (29, 1, .iload_n 3), (30, 1, .iaload), (31, 1, .istore_n 3), (32, 3, .iinc 4 (-1)), (35, 3, .goto (-21)), (38, 1, .iload_n 3), (39, 1, .iconst (-1)), (40, 3, .if_icmp .ne 8), (43, 2, .bipush (-104)), (45, 3, .goto 9), (48, 1, .aload_n 0), (49, 3, .getfield 11), (52, 1, .iload_n 3), (53, 1, .iaload), (54, 1, .ireturn)]
def zc_103 : List (Nat × Nat × Instr) := [(0, 1, .aload_n 0), (1, 3, .invokespecial 3), (4, 1, .aload_n 0), (5, 3, .new 9), (8, 1, .dup), (9, 3, .invokespecial 11), (12, 3, .putfield 12), (15, 1, .aload_n 0), (16, 3, .new 9), (19, 1, .dup), (20, 3, .invokespecial 11), (23, 3, .putfield 16), (26, 1, .aload_n 0), (27, 3, .new 19), (30, 1, .dup), (31, 3, .invokespecial 21), (34, 3, .putfield 22), (37, 1, .aload_n 0), (38, 3, .new 26), (41, 1, .dup), (42, 3, .invokespecial 28), (45, 3, .putfield 29), (48, 1, .aload_n 0), (49, 3, .new 33), (52, 1, .dup), (53, 3, .invokespecial 35), (56, 3, .putfield 36), (59, 1, .aload_n 0), (60, 3, .new 40), (63, 1, .dup), (64, 3, .invokespecial 42), (67, 3, .putfield 43), (70, 1, .aload_n 0), (71, 3, .new 47), (74, 1, .dup), (75, 3, .invokespecial 49), (78, 3, .putfield 50), (81, 1, .aload_n 0), (82, 3, .new 54), (85, 1, .dup), (86, 3, .invokespecial 56), (89, 3, .putfield 57), (92, 1, .aload_n 0), (93, 3, .new 61), (96, 1, .dup), (97, 3, .invokespecial 63), (100, 3, .putfield 64), (103, 1, .aload_n 0), (104, 1, .iconst 0), (105, 3, .putfield 68), (108, 1, .return_)]
def zc_104 : List (Nat × Nat × Instr) := [(0, 1, .aload_n 0), (1, 3, .getfield 22), (4, 1, .aload_n 0), (5, 3, .getfield 12), (8, 3, .invokevirtual 72), (11, 1, .aload_n 0), (12, 1, .aload_n 0), (13, 3, .getfield 12), (16, 1, .iload_n 1), (17, 1, .iload_n 2), (18, 1, .iload_n 3), (19, 2, .iload 4), (21, 3, .invokevirtual 76), (24, 3, .invokevirtual 80), (27, 1, .ireturn)]
def zc_105 : List (Nat × Nat × Instr) := [(0, 1, .aload_n 0), (1, 3, .getfield 22), (4, 1, .aload_n 0), (5, 3, .getfield 12), (8, 3, .invokevirtual 72), (11, 1, .aload_n 0), (12, 1, .aload_n 0), (13, 3, .getfield 12), (16, 1, .iload_n 1), (17, 1, .iload_n 2), (18, 3, .invokevirtual 84), (21, 3, .invokevirtual 80), (24, 1, .ireturn)]
def zc_106 : List (Nat × Nat × Instr) := [(0, 1, .aload_n 0), (1, 3, .getfield 22), (4, 1, .aload_n 0), (5, 3, .getfield 12), (8, 3, .invokevirtual 72), (11, 1, .aload_n 0), (12, 1, .aload_n 0), (13, 3, .getfield 12), (16, 1, .iload_n 1), (17, 1, .iload_n 2), (18, 3, .invokevirtual 88), (21, 3, .invokevirtual 91), (24, 1, .ireturn)]
def zc_107 : List (Nat × Nat × Instr) := [(0, 1, .aload_n 0), (1, 3, .getfield 22), (4, 1, .aload_n 0), (5, 3, .getfield 12), (8, 3, .invokevirtual 72), (11, 1, .aload_n 0), (12, 1, .aload_n 0), (13, 3, .getfield 12), (16, 1, .iload_n 1), (17, 1, .iload_n 2), (18, 3, .invokevirtual 94), (21, 3, .invokevirtual 91), (24, 1, .ireturn)]
def zc_108 : List (Nat × Nat × Instr) := [(0, 1, .aload_n 0), (1, 3, .getfield 22), (4, 1, .aload_n 0), (5, 3, .getfield 12), (8, 3, .invokevirtual 72), (11, 1, .aload_n 0), (12, 1, .aload_n 0), (13, 3, .getfield 12), (16, 1, .iload_n 1), (17, 3, .invokevirtual 97), (20, 3, .invokevirtual 80), (23, 1, .ireturn)]
def zc_109 : List (Nat × Nat × Instr) := [(0, 1, .aload_n 0), (1, 3, .getfield 22), (4, 1, .aload_n 0), (5, 3, .getfield 12), (8, 3, .invokevirtual 72), (11, 1, .aload_n 0), (12, 1, .aload_n 0), (13, 3, .getfield 12), (16, 1, .iload_n 1), (17, 3, .invokevirtual 100), (20, 3, .invokevirtual 80), (23, 1, .ireturn)]
def zc_110 : List (Nat × Nat × Instr) := [(0, 1, .aload_n 0), (1, 3, .getfield 22), (4, 1, .aload_n 0), (5, 3, .getfield 12), (8, 3, .invokevirtual 72), (11, 1, .aload_n 0), (12, 1, .aload_n 0), (13, 3, .getfield 12), (16, 1, .iload_n 1), (17, 3, .invokevirtual 103), (20, 3, .invokevirtual 80), (23, 1, .ireturn)]
def zc_111 : List (Nat × Nat × Instr) := [(0, 1, .iload_n 2), (1, 3, .ifCond .lt 8), (4, 1, .iload_n 2), (5, 1, .iconst 5), (6, 3, .if_icmp .le 6), (9, 2, .bipush (-102)), (11, 1, .ireturn), (12, 1, .aload_n 0), (13, 3, .getfield 22), (16, 1, .aload_n 0), (17, 3, .getfield 12), (20, 3, .invokevirtual 72), (23, 1, .aload_n 0), (24, 3, .getfield 36), (27, 1, .aload_n 0), (28, 3, .getfield 12), (31, 1, .iload_n 1), (32, 1, .iload_n 2), (33, 3, .invokevirtual 106), (36, 1, .aload_n 0), (37, 1, .aload_n 0), (38, 3, .getfield 12), (41, 3, .getfield 110), (44, 3, .invokevirtual 80), (47, 1, .ireturn)]
def zc_112 : List (Nat × Nat × Instr) := [(0, 1, .aload_n 0), (1, 3, .getfield 22), (4, 1, .aload_n 0), (5, 3, .getfield 12), (8, 3, .invokevirtual 72), (11, 1, .aload_n 0), (12, 1, .aload_n 0), (13, 3, .getfield 12), (16, 3, .invokevirtual 114), (19, 3, .invokevirtual 80), (22, 1, .ireturn)]
def zc_113 : List (Nat × Nat × Instr) := [(0, 1, .aload_n 0), (1, 3, .getfield 22), (4, 1, .aload_n 0), (5, 3, .getfield 12), (8, 3, .invokevirtual 72), (11, 1, .aload_n 0), (12, 1, .aload_n 0), (13, 3, .getfield 43), (16, 1, .aload_n 0), (17, 3, .getfield 12), (20, 3, .invokevirtual 118), (23, 3, .invokevirtual 80), (26, 1, .ireturn)]
def zc_114 : List (Nat × Nat × Instr) := [(0, 1, .iload_n 1), (1, 3, .ifCond .lt 8), (4, 1, .iload_n 1), (5, 1, .iconst 2), (6, 3, .if_icmp .le 6), (9, 2, .bipush (-102)), (11, 1, .ireturn), (12, 1, .aload_n 0), (13, 3, .getfield 22), (16, 1, .aload_n 0), (17, 3, .getfield 12), (20, 3, .invokevirtual 72), (23, 1, .aload_n 0), (24, 3, .getfield 12), (27, 3, .getfield 122), (30, 1, .istore_n 2), (31, 1, .aload_n 0), (32, 3, .getfield 12), (35, 1, .iload_n 1), (36, 3, .putfield 122), (39, 1, .aload_n 0), (40, 1, .iload_n 2), (41, 3, .invokevirtual 80), (44, 1, .ireturn)]
def zc_115 : List (Nat × Nat × Instr) := [(0, 1, .aload_n 0), (1, 3, .getfield 29), (4, 1, .iload_n 1), (5, 3, .invokevirtual 125), (8, 1, .ireturn)]
def zc_116 : List (Nat × Nat × Instr) := [(0, 1, .aload_n 0), (1, 3, .getfield 29), (4, 3, .invokevirtual 128), (7, 3, .ifCond .ne 6), (10, 2, .bipush (-102)), (12, 1, .ireturn), (13, 1, .aload_n 0), (14, 3, .getfield 22), (17, 1, .aload_n 0), (18, 3, .getfield 12), (21, 3, .invokevirtual 72), (24, 1, .aload_n 0), (25, 3, .getfield 29), (28, 1, .aload_n 0), (29, 3, .getfield 12), (32, 3, .invokevirtual 132), (35, 3, .ifCond .ne 17), (38, 1, .aload_n 0), (39, 3, .getfield 22), (42, 1, .aload_n 0), (43, 3, .getfield 12), (46, 3, .invokevirtual 136), (49, 2, .bipush (-105)), (51, 1, .ireturn), (52, 1, .aload_n 0), (53, 1, .aload_n 0), (54, 3, .getfield 29), (57, 3, .getfield 139), (60, 3, .invokevirtual 80), (63, 1, .ireturn)]
def zc_117 : List (Nat × Nat × Instr) := [(0, 1, .aload_n 0), (1, 3, .getfield 29), (4, 3, .getfield 142), (7, 1, .ireturn)]
def zc_118 : List (Nat × Nat × Instr) := [(0, 1, .aload_n 0), (1, 3, .getfield 22), (4, 1, .aload_n 0), (5, 3, .getfield 12), (8, 3, .invokevirtual 145), (11, 1, .ireturn)]
def zc_119 : List (Nat × Nat × Instr) := [(0, 1, .iload_n 1), (1, 55, .tableswitch 147 0 9 #[55, 63, 71, 79, 87, 95, 114, 122, 131, 139]), (56, 1, .aload_n 0), (57, 3, .getfield 12), (60, 3, .getfield 110), (63, 1, .ireturn), (64, 1, .aload_n 0), (65, 3, .getfield 12), (68, 3, .getfield 148), (71, 1, .ireturn), (72, 1, .aload_n 0), (73, 3, .getfield 12), (76, 3, .invokevirtual 151), (79, 1, .ireturn), (80, 1, .aload_n 0), (81, 3, .getfield 12), (84, 3, .invokevirtual 154), (87, 1, .ireturn), (88, 1, .aload_n 0), (89, 3, .getfield 12), (92, 3, .invokevirtual 157), (95, 1, .ireturn), (96, 1, .aload_n 0), (97, 3, .getfield 64), (100, 1, .aload_n 0), (101, 3, .getfield 12), (104, 3, .invokevirtual 160), (107, 1, .aload_n 0), (108, 3, .getfield 64), (111, 3, .invokevirtual 163), (114, 1, .ireturn), (115, 1, .aload_n 0), (116, 3, .getfield 12), (119, 3, .invokevirtual 166), (122, 1, .ireturn), (123, 1, .aload_n 0), (124, 3, .getfield 12), (127, 1, .iconst (-1)), (128, 3, .invokestatic 169), (131, 1, .ireturn), (132, 1, .aload_n 0), (133, 3, .getfield 12), (136, 3, .invokestatic 175), (139, 1, .ireturn), (140, 1, .aload_n 0), (141, 3, .getfield 29), (144, 3, .getfield 178), (147, 1, .ireturn), (148, 2, .bipush (-102)), (150, 1, .ireturn)]
def zc_120 : List (Nat × Nat × Instr) := [(0, 1, .aload_n 0), (1, 3, .getfield 12), (4, 1, .iload_n 1), (5, 3, .invokevirtual 181), (8, 3, .ifCond .ne 6), (11, 2, .bipush (-101)), (13, 1, .ireturn), (14, 1, .iload_n 2), (15, 45, .tableswitch 125 0 7 #[45, 55, 65, 75, 85, 98, 107, 116]), (60, 1, .aload_n 0), (61, 3, .getfield 12), (64, 3, .getfield 185), (67, 1, .iload_n 1), (68, 1, .iaload), (69, 1, .ireturn), (70, 1, .aload_n 0), (71, 3, .getfield 12), (74, 3, .getfield 189), (77, 1, .iload_n 1), (78, 1, .iaload), (79, 1, .ireturn), (80, 1, .aload_n 0), (81, 3, .getfield 12), (84, 3, .getfield 192), (87, 1, .iload_n 1), (88, 1, .iaload), (89, 1, .ireturn), (90, 1, .aload_n 0), (91, 3, .getfield 12), (94, 3, .getfield 195), (97, 1, .iload_n 1), (98, 1, .iaload), (99, 1, .ireturn), (100, 1, .aload_n 0), (101, 3, .getfield 12), (104, 3, .getfield 198), (107, 1, .iload_n 1), (108, 1, .iaload), (109, 3, .invokestatic 201), (112, 1, .ireturn), (113, 1, .aload_n 0), (114, 3, .getfield 12), (117, 1, .iload_n 1), (118, 3, .invokevirtual 204), (121, 1, .ireturn), (122, 1, .aload_n 0), (123, 3, .getfield 12), (126, 1, .iload_n 1), (127, 3, .invokevirtual 207), (130, 1, .ireturn), (131, 1, .aload_n 0), (132, 3, .getfield 12), (135, 1, .iload_n 1), (136, 3, .invokevirtual 210), (139, 1, .ireturn), (140, 2, .bipush (-102)), (142, 1, .ireturn)]
def zc_121 : List (Nat × Nat × Instr) := [(0, 1, .aload_n 0), (1, 3, .getfield 12), (4, 1, .iload_n 1), (5, 3, .invokevirtual 213), (8, 3, .ifCond .ne 6), (11, 2, .bipush (-101)), (13, 1, .ireturn), (14, 1, .iload_n 2), (15, 29, .tableswitch 86 0 3 #[29, 39, 49, 62]), (44, 1, .aload_n 0), (45, 3, .getfield 12), (48, 3, .getfield 216), (51, 1, .iload_n 1), (52, 1, .iaload), (53, 1, .ireturn), (54, 1, .aload_n 0), (55, 3, .getfield 12), (58, 3, .getfield 219), (61, 1, .iload_n 1), (62, 1, .iaload), (63, 1, .ireturn), (64, 1, .aload_n 0), (65, 3, .getfield 12), (68, 3, .getfield 222), (71, 1, .iload_n 1), (72, 1, .iaload), (73, 3, .invokestatic 201), (76, 1, .ireturn), (77, 1, .aload_n 0), (78, 3, .getfield 64), (81, 1, .aload_n 0), (82, 3, .getfield 12), (85, 3, .invokevirtual 160), (88, 1, .aload_n 0), (89, 3, .getfield 64), (92, 1, .aload_n 0), (93, 3, .getfield 12), (96, 1, .iload_n 1), (97, 3, .invokevirtual 225), (100, 1, .ireturn), (101, 2, .bipush (-102)), (103, 1, .ireturn)]
def zc_122 : List (Nat × Nat × Instr) := [(0, 1, .aload_n 0), (1, 3, .getfield 12), (4, 1, .iload_n 1), (5, 3, .invokevirtual 181), (8, 3, .ifCond .eq 14), (11, 1, .aload_n 0), (12, 3, .getfield 12), (15, 1, .iload_n 2), (16, 3, .invokevirtual 181), (19, 3, .ifCond .ne 6), (22, 2, .bipush (-101)), (24, 1, .ireturn), (25, 1, .aload_n 0), (26, 3, .getfield 12), (29, 1, .iload_n 1), (30, 1, .iload_n 2), (31, 3, .invokevirtual 228), (34, 1, .istore_n 3), (35, 1, .iload_n 3), (36, 1, .iconst (-1)), (37, 3, .if_icmp .ne 8), (40, 2, .bipush (-104)), (42, 3, .goto 4), (45, 1, .iload_n 3), (46, 1, .ireturn)]
def zc_123 : List (Nat × Nat × Instr) := [(0, 1, .aload_n 0), (1, 3, .getfield 12), (4, 3, .getfield 110), (7, 3, .ifCond .ne 8), (10, 2, .bipush (-104)), (12, 3, .goto 10), (15, 1, .aload_n 0), (16, 3, .getfield 12), (19, 3, .getfield 231), (22, 1, .ireturn)]
def zc_124 : List (Nat × Nat × Instr) := [(0, 1, .iload_n 1), (1, 1, .iload_n 2), (2, 3, .invokestatic 234), (5, 1, .istore_n 3), (6, 1, .iload_n 3), (7, 1, .iconst (-1)), (8, 3, .if_icmp .ne 6), (11, 2, .bipush (-101)), (13, 1, .ireturn), (14, 1, .aload_n 0), (15, 3, .getfield 64), (18, 1, .aload_n 0), (19, 3, .getfield 12), (22, 3, .invokevirtual 160), (25, 1, .aload_n 0), (26, 3, .getfield 64), (29, 1, .iload_n 3), (30, 3, .invokevirtual 237), (33, 1, .ireturn)]
def zc_125 : List (Nat × Nat × Instr) := [(0, 1, .iload_n 1), (1, 1, .iload_n 2), (2, 3, .invokestatic 234), (5, 1, .istore_n 3), (6, 1, .iload_n 3), (7, 1, .iconst (-1)), (8, 3, .if_icmp .ne 6), (11, 2, .bipush (-101)), (13, 1, .ireturn), (14, 1, .aload_n 0), (15, 3, .getfield 64), (18, 1, .aload_n 0), (19, 3, .getfield 12), (22, 3, .invokevirtual 160), (25, 1, .aload_n 0), (26, 3, .getfield 64), (29, 1, .aload_n 0), (30, 3, .getfield 12), (33, 1, .iload_n 3), (34, 3, .invokevirtual 240), (37, 1, .ireturn)]
def zc_126 : List (Nat × Nat × Instr) := [(0, 1, .iload_n 1), (1, 1, .iload_n 2), (2, 3, .invokestatic 234), (5, 2, .istore 5), (7, 1, .iload_n 3), (8, 2, .iload 4), (10, 3, .invokestatic 234), (13, 2, .istore 6), (15, 2, .iload 5), (17, 1, .iconst (-1)), (18, 3, .if_icmp .eq 9), (21, 2, .iload 6), (23, 1, .iconst (-1)), (24, 3, .if_icmp .ne 6), (27, 2, .bipush (-101)), (29, 1, .ireturn), (30, 1, .aload_n 0), (31, 3, .getfield 64), (34, 1, .aload_n 0), (35, 3, .getfield 12), (38, 3, .invokevirtual 160), (41, 1, .aload_n 0), (42, 3, .getfield 64), (45, 2, .iload 5), (47, 3, .invokevirtual 243), (50, 3, .ifCond .eq 15), (53, 1, .aload_n 0), (54, 3, .getfield 64), (57, 2, .iload 6), (59, 3, .invokevirtual 243), (62, 3, .ifCond .ne 6), (65, 2, .bipush (-102)), (67, 1, .ireturn), (68, 1, .aload_n 0), (69, 3, .getfield 64), (72, 2, .iload 5), (74, 2, .iload 6), (76, 3, .invokevirtual 246), (79, 1, .ireturn)]
def zc_127 : List (Nat × Nat × Instr) := [(0, 1, .aload_n 0), (1, 3, .getfield 12), (4, 1, .iload_n 1), (5, 3, .invokevirtual 181), (8, 3, .ifCond .ne 6), (11, 2, .bipush (-101)), (13, 1, .ireturn), (14, 1, .aload_n 0), (15, 3, .getfield 50), (18, 1, .aload_n 0), (19, 3, .getfield 12), (22, 3, .invokevirtual 249), (25, 1, .aload_n 0), (26, 3, .getfield 50), (29, 3, .getfield 252), (32, 1, .iload_n 1), (33, 1, .iaload), (34, 1, .ireturn)]
def zc_128 : List (Nat × Nat × Instr) := [(0, 1, .aload_n 0), (1, 3, .getfield 12), (4, 1, .iload_n 1), (5, 3, .invokevirtual 181), (8, 3, .ifCond .ne 6), (11, 2, .bipush (-101)), (13, 1, .ireturn), (14, 1, .aload_n 0), (15, 3, .getfield 50), (18, 1, .aload_n 0), (19, 3, .getfield 12), (22, 3, .invokevirtual 249), (25, 1, .aload_n 0), (26, 3, .getfield 50), (29, 3, .getfield 255), (32, 1, .iload_n 1), (33, 1, .iaload), (34, 1, .ireturn)]
def zc_129 : List (Nat × Nat × Instr) := [(0, 1, .aload_n 0), (1, 3, .getfield 50), (4, 1, .aload_n 0), (5, 3, .getfield 12), (8, 3, .invokevirtual 249), (11, 1, .aload_n 0), (12, 3, .getfield 50), (15, 3, .getfield 258), (18, 1, .ireturn)]
def zc_130 : List (Nat × Nat × Instr) := [(0, 1, .aload_n 0), (1, 3, .getfield 50), (4, 1, .aload_n 0), (5, 3, .getfield 12), (8, 3, .invokevirtual 249), (11, 1, .aload_n 0), (12, 3, .getfield 50), (15, 1, .iload_n 1), (16, 3, .invokevirtual 261), (19, 3, .ifCond .eq 15), (22, 1, .aload_n 0), (23, 3, .getfield 50), (26, 3, .getfield 264), (29, 1, .iload_n 1), (30, 1, .iaload), (31, 3, .goto 5), (34, 2, .bipush (-101)), (36, 1, .ireturn)]
def zc_131 : List (Nat × Nat × Instr) := [(0, 1, .aload_n 0), (1, 3, .getfield 12), (4, 1, .iload_n 1), (5, 3, .invokevirtual 181), (8, 3, .ifCond .ne 6), (11, 2, .bipush (-101)), (13, 1, .ireturn), (14, 1, .aload_n 0), (15, 3, .getfield 50), (18, 1, .aload_n 0), (19, 3, .getfield 12), (22, 3, .invokevirtual 249), (25, 1, .aload_n 0), (26, 3, .getfield 50), (29, 1, .iload_n 1), (30, 3, .invokevirtual 267), (33, 1, .ireturn)]
def zc_132 : List (Nat × Nat × Instr) := [(0, 1, .aload_n 0), (1, 3, .getfield 12), (4, 3, .getfield 110), (7, 3, .ifCond .ne 6), (10, 2, .bipush (-104)), (12, 1, .ireturn), (13, 1, .aload_n 0), (14, 3, .getfield 50), (17, 1, .aload_n 0), (18, 3, .getfield 12), (21, 3, .invokevirtual 249), (24, 1, .aload_n 0), (25, 3, .getfield 50), (28, 3, .getfield 258), (31, 1, .aload_n 0), (32, 3, .getfield 12), (35, 3, .getfield 110), (38, 3, .if_icmp .ne 7), (41, 1, .iconst 1), (42, 3, .goto 4), (45, 1, .iconst 0), (46, 1, .ireturn)]
def zc_133 : List (Nat × Nat × Instr) := [(0, 1, .aload_n 0), (1, 3, .getfield 12), (4, 1, .aload_n 0), (5, 3, .getfield 12), (8, 1, .iconst 0), (9, 1, .iconst 0), (10, 3, .invokestatic 270), (13, 3, .invokestatic 274), (16, 1, .ireturn)]
def zc_134 : List (Nat × Nat × Instr) := [(0, 1, .aload_n 0), (1, 3, .getfield 12), (4, 1, .iload_n 1), (5, 3, .invokevirtual 181), (8, 3, .ifCond .ne 6), (11, 2, .bipush (-101)), (13, 1, .ireturn), (14, 1, .aload_n 0), (15, 3, .getfield 12), (18, 1, .iconst 0), (19, 1, .iconst 0), (20, 3, .invokestatic 270), (23, 1, .iload_n 1), (24, 3, .invokestatic 277), (27, 3, .ifCond .ne 6), (30, 2, .bipush (-104)), (32, 1, .ireturn), (33, 1, .iconst 0), (34, 1, .istore_n 2), (35, 1, .iconst 0), (36, 1, .istore_n 3), (37, 1, .iload_n 3), (38, 2, .bipush 6), (40, 3, .if_icmp .ge 33), (43, 1, .aload_n 0), (44, 3, .getfield 12), (47, 1, .iconst 1), (48, 1, .iload_n 3), (49, 1, .ishl), (50, 1, .iconst 0), (51, 3, .invokestatic 270), (54, 1, .iload_n 1), (55, 3, .invokestatic 277), (58, 3, .ifCond .ne 9), (61, 1, .iload_n 2), (62, 1, .iconst 1), (63, 1, .iload_n 3), (64, 1, .ishl), (65, 1, .ior), (66, 1, .istore_n 2), (67, 3, .iinc 3 1), (70, 3, .goto (-33)), (73, 1, .iload_n 2), (74, 1, .ireturn)]
def zc_135 : List (Nat × Nat × Instr) := [(0, 1, .aload_n 0), (1, 3, .getfield 12), (4, 1, .iload_n 1), (5, 3, .invokevirtual 181), (8, 3, .ifCond .ne 6), (11, 2, .bipush (-101)), (13, 1, .ireturn), (14, 1, .aload_n 0), (15, 3, .getfield 12), (18, 1, .iconst 0), (19, 1, .iconst 0), (20, 3, .invokestatic 270), (23, 1, .iload_n 1), (24, 3, .invokestatic 277), (27, 3, .ifCond .eq 6), (30, 2, .bipush (-104)), (32, 1, .ireturn), (33, 1, .iconst 0), (34, 1, .istore_n 2), (35, 1, .iconst 0), (36, 1, .istore_n 3), (37, 1, .iload_n 3), (38, 2, .bipush 6), (40, 3, .if_icmp .ge 33), (43, 1, .aload_n 0), (44, 3, .getfield 12), (47, 1, .iconst 0), (48, 1, .iconst 1), (49, 1, .iload_n 3), (50, 1, .ishl), (51, 3, .invokestatic 270), (54, 1, .iload_n 1), (55, 3, .invokestatic 277), (58, 3, .ifCond .eq 9), (61, 1, .iload_n 2), (62, 1, .iconst 1), (63, 1, .iload_n 3), (64, 1, .ishl), (65, 1, .ior), (66, 1, .istore_n 2), (67, 3, .iinc 3 1), (70, 3, .goto (-33)), (73, 1, .iload_n 2), (74, 1, .ireturn)]
def zc_136 : List (Nat × Nat × Instr) := [(0, 1, .aload_n 0), (1, 3, .getfield 12), (4, 1, .iload_n 1), (5, 3, .invokevirtual 181), (8, 3, .ifCond .ne 6), (11, 2, .bipush (-101)), (13, 1, .ireturn), (14, 1, .aload_n 0), (15, 3, .getfield 57), (18, 1, .aload_n 0), (19, 3, .getfield 12), (22, 3, .invokevirtual 281), (25, 1, .aload_n 0), (26, 3, .getfield 57), (29, 1, .iload_n 1), (30, 3, .invokevirtual 284), (33, 1, .istore_n 2), (34, 1, .iload_n 2), (35, 1, .iconst (-1)), (36, 3, .if_icmp .ne 8), (39, 2, .bipush (-104)), (41, 3, .goto 4), (44, 1, .iload_n 2), (45, 1, .ireturn)]
def zc_137 : List (Nat × Nat × Instr) := [(0, 1, .aload_n 0), (1, 3, .getfield 12), (4, 1, .iload_n 1), (5, 3, .invokevirtual 181), (8, 3, .ifCond .ne 6), (11, 2, .bipush (-101)), (13, 1, .ireturn), (14, 1, .aload_n 0), (15, 3, .getfield 57), (18, 1, .aload_n 0), (19, 3, .getfield 12), (22, 3, .invokevirtual 281), (25, 1, .aload_n 0), (26, 3, .getfield 57), (29, 1, .iload_n 1), (30, 3, .invokevirtual 284), (33, 1, .istore_n 3), (34, 1, .iload_n 3), (35, 1, .iconst (-1)), (36, 3, .if_icmp .ne 6), (39, 2, .bipush (-104)), (41, 1, .ireturn), (42, 1, .iload_n 2), (43, 3, .ifCond .lt 8), (46, 1, .iload_n 2), (47, 1, .iload_n 3), (48, 3, .if_icmp .le 8), (51, 2, .bipush (-102)), (53, 3, .goto 12), (56, 1, .aload_n 0), (57, 3, .getfield 57), (60, 1, .iload_n 1), (61, 1, .iload_n 2), (62, 3, .invokevirtual 287), (65, 1, .ireturn)]
def zc_138 : List (Nat × Nat × Instr) := [(0, 1, .aload_n 0), (1, 3, .getfield 12), (4, 3, .getfield 110), (7, 3, .ifCond .ne 6), (10, 2, .bipush (-104)), (12, 1, .ireturn), (13, 1, .aload_n 0), (14, 3, .getfield 57), (17, 1, .aload_n 0), (18, 3, .getfield 12), (21, 3, .invokevirtual 281), (24, 1, .iconst 0), (25, 1, .istore_n 1), (26, 1, .iconst 0), (27, 1, .istore_n 2), (28, 1, .iload_n 2), (29, 1, .aload_n 0), (30, 3, .getfield 12), (33, 3, .getfield 110), (36, 3, .if_icmp .ge 22), (39, 1, .iload_n 1), (40, 1, .aload_n 0), (41, 3, .getfield 57), (44, 1, .iload_n 2), (45, 3, .invokevirtual 284), (48, 3, .invokestatic 290), (51, 1, .istore_n 1), (52, 3, .iinc 2 1), (55, 3, .goto (-27)), (58, 1, .iload_n 1), (59, 1, .ireturn)]
def zc_139 : List (Nat × Nat × Instr) := [(0, 1, .aload_n 0), (1, 3, .getfield 50), (4, 1, .aload_n 0), (5, 3, .getfield 12), (8, 3, .invokevirtual 249), (11, 1, .iload_n 1), (12, 1, .iconst 1), (13, 3, .if_icmp .lt 14), (16, 1, .aload_n 0), (17, 3, .getfield 50), (20, 1, .iload_n 1), (21, 3, .invokevirtual 261), (24, 3, .ifCond .ne 6), (27, 2, .bipush (-101)), (29, 1, .ireturn), (30, 1, .aload_n 0), (31, 3, .getfield 50), (34, 1, .iload_n 1), (35, 3, .invokevirtual 295), (38, 3, .sipush 1000), (41, 1, .iadd), (42, 1, .ireturn)]
def zc_140 : List (Nat × Nat × Instr) := [(0, 1, .aload_n 0), (1, 3, .getfield 50), (4, 1, .aload_n 0), (5, 3, .getfield 12), (8, 3, .invokevirtual 249), (11, 1, .iconst 0), (12, 1, .istore_n 1), (13, 1, .iconst 1), (14, 1, .istore_n 2), (15, 1, .iload_n 2), (16, 1, .aload_n 0), (17, 3, .getfield 50), (20, 3, .getfield 258), (23, 3, .if_icmp .ge 23), (26, 1, .aload_n 0), (27, 3, .getfield 50), (30, 1, .iload_n 2), (31, 3, .invokevirtual 295), (34, 3, .ifCond .ge 6), (37, 3, .iinc 1 1), (40, 3, .iinc 2 1), (43, 3, .goto (-28)), (46, 1, .iload_n 1), (47, 1, .ireturn)]
def zc_141 : List (Nat × Nat × Instr) := [(0, 1, .aload_n 0), (1, 3, .getfield 50), (4, 1, .aload_n 0), (5, 3, .getfield 12), (8, 3, .invokevirtual 249), (11, 1, .aload_n 0), (12, 3, .getfield 50), (15, 1, .aload_n 0), (16, 3, .getfield 12), (19, 3, .invokevirtual 298), (22, 1, .ireturn)]
def zc_142 : List (Nat × Nat × Instr) := [(0, 1, .aload_n 0), (1, 3, .getfield 12), (4, 3, .getfield 110), (7, 3, .ifCond .ne 7), (10, 3, .ldc2_w 303), (13, 1, .lreturn), (14, 1, .aload_n 0), (15, 3, .getfield 50), (18, 1, .aload_n 0), (19, 3, .getfield 12), (22, 3, .invokevirtual 249), (25, 1, .iconst 0), (26, 1, .istore_n 1), (27, 1, .iconst 0), (28, 1, .istore_n 2), (29, 1, .iload_n 2), (30, 1, .aload_n 0), (31, 3, .getfield 12), (34, 3, .getfield 110), (37, 3, .if_icmp .ge 21), (40, 1, .iload_n 1), (41, 1, .aload_n 0), (42, 3, .getfield 50), (45, 3, .getfield 255), (48, 1, .iload_n 2), (49, 1, .iaload), (50, 1, .iadd), (51, 1, .istore_n 1), (52, 3, .iinc 2 1), (55, 3, .goto (-26)), (58, 1, .iload_n 1), (59, 1, .i2d), (60, 1, .aload_n 0), (61, 3, .getfield 12), (64, 3, .getfield 110), (67, 1, .i2d), (68, 1, .ddiv), (69, 3, .invokestatic 305), (72, 1, .lreturn)]
def zc_143 : List (Nat × Nat × Instr) := [(0, 1, .aload_n 0), (1, 3, .getfield 16), (4, 1, .aload_n 0), (5, 3, .getfield 12), (8, 3, .invokevirtual 309), (11, 1, .aload_n 0), (12, 1, .iconst 1), (13, 3, .putfield 68), (16, 1, .aload_n 0), (17, 3, .getfield 12), (20, 3, .getfield 110), (23, 1, .ireturn)]
def zc_144 : List (Nat × Nat × Instr) := [(0, 1, .aload_n 0), (1, 3, .getfield 68), (4, 3, .ifCond .ne 6), (7, 2, .bipush (-105)), (9, 1, .ireturn), (10, 1, .aload_n 0), (11, 3, .getfield 12), (14, 1, .aload_n 0), (15, 3, .getfield 16), (18, 3, .invokevirtual 309), (21, 1, .aload_n 0), (22, 3, .getfield 22), (25, 3, .invokevirtual 312), (28, 1, .aload_n 0), (29, 3, .getfield 12), (32, 3, .getfield 110), (35, 1, .ireturn)]
def zc_145 : List (Nat × Nat × Instr) := [(0, 1, .iload_n 1), (1, 3, .ifCond .lt 10), (4, 1, .aload_n 0), (5, 3, .getfield 22), (8, 3, .invokevirtual 315), (11, 1, .iload_n 1), (12, 1, .ireturn)]
def zc_146 : List (Nat × Nat × Instr) := [(0, 1, .iload_n 1), (1, 3, .ifCond .ge 9), (4, 1, .iload_n 1), (5, 2, .bipush (-104)), (7, 3, .if_icmp .ne 10), (10, 1, .aload_n 0), (11, 3, .getfield 22), (14, 3, .invokevirtual 315), (17, 1, .iload_n 1), (18, 1, .ireturn)]
def zc_147 : List (Nat × Nat × Instr) := [(0, 1, .iload_n 0), (1, 1, .iconst (-1)), (2, 3, .if_icmp .ne 8), (5, 2, .bipush (-104)), (7, 3, .goto 4), (10, 1, .iload_n 0), (11, 1, .ireturn)]
def zc_148 : List (Nat × Nat × Instr) := [(0, 1, .iload_n 0), (1, 1, .iconst (-1)), (2, 3, .if_icmp .lt 13), (5, 1, .iload_n 0), (6, 2, .bipush 6), (8, 3, .if_icmp .ge 7), (11, 1, .iconst 1), (12, 3, .goto 4), (15, 1, .iconst 0), (16, 1, .ireturn)]
def zc_149 : List (Nat × Nat × Instr) := [(0, 1, .iload_n 0), (1, 1, .iload_n 1), (2, 1, .ishr), (3, 1, .iconst 1), (4, 1, .iand), (5, 3, .ifCond .eq 7), (8, 1, .iconst 1), (9, 3, .goto 4), (12, 1, .iconst 0), (13, 1, .ireturn)]
def zc_150 : List (Nat × Nat × Instr) := [(0, 1, .iload_n 0), (1, 3, .ifCond .lt 19), (4, 1, .iload_n 0), (5, 2, .bipush 24), (7, 3, .if_icmp .ge 13), (10, 1, .iload_n 1), (11, 3, .ifCond .lt 9), (14, 1, .iload_n 1), (15, 2, .bipush 16), (17, 3, .if_icmp .lt 5), (20, 1, .iconst (-1)), (21, 1, .ireturn), (22, 1, .iload_n 1), (23, 2, .bipush 24), (25, 1, .imul), (26, 1, .iload_n 0), (27, 1, .iadd), (28, 1, .ireturn)]
def zc_151 : List (Nat × Nat × Instr) := [(0, 1, .dload_n 0), (1, 1, .dconst 1), (2, 1, .dcmp .g), (3, 3, .ifCond .ge 5), (6, 1, .lconst 0), (7, 1, .lreturn), (8, 1, .dload_n 0), (9, 1, .dstore_n 2), (10, 3, .ldc2_w 318), (13, 2, .lstore 4), (15, 1, .iconst 0), (16, 2, .istore 6), (18, 2, .iload 6), (20, 3, .sipush 1023), (23, 3, .if_icmp .ge 29), (26, 1, .dload_n 2), (27, 3, .ldc2_w 320), (30, 1, .dcmp .l), (31, 3, .ifCond .lt 21), (34, 1, .dload_n 2), (35, 3, .ldc2_w 320), (38, 1, .ddiv), (39, 1, .dstore_n 2), (40, 2, .lload 4), (42, 1, .lconst 1), (43, 1, .ladd), (44, 2, .lstore 4), (46, 3, .iinc 6 1), (49, 3, .goto (-31)), (52, 2, .lload 4), (54, 2, .bipush 52), (56, 1, .lshl), (57, 1, .dload_n 2), (58, 1, .dconst 1), (59, 1, .dsub), (60, 3, .ldc2_w 322), (63, 1, .dmul), (64, 1, .d2l), (65, 1, .lor), (66, 1, .lreturn)]
def zc_152 : List (Nat × Nat × Instr) := [(0, 1, .aload_n 0), (1, 3, .invokespecial 1), (4, 1, .aload_n 0), (5, 2, .bipush 124), (7, 2, .newarray .int), (9, 3, .putfield 7), (12, 1, .aload_n 0), (13, 3, .sipush 744), (16, 2, .newarray .int), (18, 3, .putfield 13), (21, 1, .aload_n 0), (22, 2, .bipush 124), (24, 2, .newarray .int), (26, 3, .putfield 16), (29, 1, .aload_n 0), (30, 2, .bipush 124), (32, 2, .newarray .int), (34, 3, .putfield 19), (37, 1, .aload_n 0), (38, 2, .bipush 80), (40, 2, .newarray .int), (42, 3, .putfield 22), (45, 1, .aload_n 0), (46, 2, .bipush 60), (48, 2, .newarray .int), (50, 3, .putfield 25), (53, 1, .aload_n 0), (54, 2, .bipush 12), (56, 2, .newarray .int), (58, 3, .putfield 28), (61, 1, .aload_n 0), (62, 2, .bipush 12), (64, 2, .newarray .int), (66, 3, .putfield 31), (69, 1, .aload_n 0), (70, 2, .bipush 12), (72, 2, .newarray .boolean), (74, 3, .putfield 34), (77, 1, .aload_n 0), (78, 2, .bipush 60), (80, 2, .newarray .char), (82, 3, .putfield 38), (85, 1, .aload_n 0), (86, 2, .bipush (-104)), (88, 3, .putfield 42), (91, 1, .aload_n 0), (92, 1, .iconst 4), (93, 2, .newarray .int), (95, 3, .putfield 46), (98, 1, .aload_n 0), (99, 3, .sipush 384), (102, 2, .newarray .int), (104, 3, .putfield 49), (107, 1, .aload_n 0), (108, 3, .sipush 384), (111, 2, .newarray .boolean), (113, 3, .putfield 52), (116, 1, .aload_n 0), (117, 3, .sipush 768), (120, 2, .newarray .int), (122, 3, .putfield 55), (125, 1, .return_)]
def zc_153 : List (Nat × Nat × Instr) := [(0, 1, .iload_n 0), (1, 1, .iload_n 1), (2, 3, .if_icmp .lt 12), (5, 1, .iload_n 0), (6, 1, .iload_n 2), (7, 3, .if_icmp .gt 7), (10, 1, .iconst 1), (11, 3, .goto 4), (14, 1, .iconst 0), (15, 1, .ireturn)]
def zc_154 : List (Nat × Nat × Instr) := [(0, 1, .iload_n 1), (1, 1, .iconst 0), (2, 1, .aload_n 0), (3, 3, .getfield 7), (6, 2, .bipush 120), (8, 1, .iaload), (9, 1, .iconst 1), (10, 1, .isub), (11, 3, .invokestatic 58), (14, 1, .ireturn)]
def zc_155 : List (Nat × Nat × Instr) := [(0, 1, .iload_n 1), (1, 1, .iconst 0), (2, 1, .aload_n 0), (3, 3, .getfield 7), (6, 2, .bipush 121), (8, 1, .iaload), (9, 1, .iconst 1), (10, 1, .isub), (11, 3, .invokestatic 58), (14, 1, .ireturn)]
def zc_156 : List (Nat × Nat × Instr) := [(0, 1, .aload_n 0), (1, 3, .getfield 7), (4, 1, .iconst 0), (5, 1, .iconst 5), (6, 1, .iload_n 1), (7, 1, .imul), (8, 1, .iadd), (9, 1, .iload_n 2), (10, 1, .iadd), (11, 1, .iaload), (12, 1, .ireturn)]
def zc_157 : List (Nat × Nat × Instr) := [(0, 1, .aload_n 0), (1, 3, .getfield 7), (4, 2, .bipush 60), (6, 1, .iconst 3), (7, 1, .iload_n 1), (8, 1, .imul), (9, 1, .iadd), (10, 1, .iload_n 2), (11, 1, .iadd), (12, 1, .iaload), (13, 1, .ireturn)]
def zc_158 : List (Nat × Nat × Instr) := [(0, 1, .aload_n 0), (1, 1, .iload_n 1), (2, 1, .iconst 0), (3, 3, .invokevirtual 62), (6, 1, .aload_n 0), (7, 1, .iload_n 1), (8, 1, .iconst 2), (9, 3, .invokevirtual 62), (12, 1, .iconst 2), (13, 1, .idiv), (14, 1, .iadd), (15, 1, .ireturn)]
def zc_159 : List (Nat × Nat × Instr) := [(0, 1, .aload_n 0), (1, 1, .iload_n 1), (2, 1, .iconst 1), (3, 3, .invokevirtual 62), (6, 1, .aload_n 0), (7, 1, .iload_n 1), (8, 1, .iconst 3), (9, 3, .invokevirtual 62), (12, 1, .iconst 2), (13, 1, .idiv), (14, 1, .iadd), (15, 1, .ireturn)]
def zc_160 : List (Nat × Nat × Instr) := [(0, 1, .iload_n 0), (1, 1, .iload_n 1), (2, 3, .if_icmp .ge 9), (5, 1, .iload_n 1), (6, 1, .iload_n 0), (7, 1, .isub), (8, 3, .goto 6), (11, 1, .iload_n 0), (12, 1, .iload_n 1), (13, 1, .isub), (14, 1, .ireturn)]
def zc_161 : List (Nat × Nat × Instr) := [(0, 1, .aload_n 0), (1, 1, .iload_n 1), (2, 3, .invokevirtual 66), (5, 1, .aload_n 0), (6, 1, .iload_n 2), (7, 3, .invokevirtual 66), (10, 3, .invokestatic 70), (13, 1, .aload_n 0), (14, 1, .iload_n 1), (15, 3, .invokevirtual 73), (18, 1, .aload_n 0), (19, 1, .iload_n 2), (20, 3, .invokevirtual 73), (23, 3, .invokestatic 70), (26, 1, .iadd), (27, 1, .ireturn)]
def zc_162 : List (Nat × Nat × Instr) := [(0, 1, .iconst 0), (1, 1, .istore_n 1), (2, 1, .iload_n 1), (3, 2, .bipush 124), (5, 3, .if_icmp .ge 21), (8, 1, .aload_n 0), (9, 3, .getfield 19), (12, 1, .iload_n 1), (13, 1, .aload_n 0), (14, 3, .getfield 7), (17, 1, .iload_n 1), (18, 1, .iaload), (19, 1, .iastore), (20, 3, .iinc 1 1), (23, 3, .goto (-21)), (26, 1, .return_)]
def zc_163 : List (Nat × Nat × Instr) := [(0, 1, .aload_n 0), (1, 3, .getfield 76), (4, 2, .bipush 6), (6, 3, .if_icmp .ne 43), (9, 1, .iconst 0), (10, 1, .istore_n 1), (11, 1, .iload_n 1), (12, 3, .sipush 620), (15, 3, .if_icmp .ge 24), (18, 1, .aload_n 0), (19, 3, .getfield 13), (22, 1, .iload_n 1), (23, 1, .aload_n 0), (24, 3, .getfield 13), (27, 1, .iload_n 1), (28, 2, .bipush 124), (30, 1, .iadd), (31, 1, .iaload), (32, 1, .iastore), (33, 3, .iinc 1 1), (36, 3, .goto (-25)), (39, 1, .aload_n 0), (40, 1, .dup), (41, 3, .getfield 76), (44, 1, .iconst 1), (45, 1, .isub), (46, 3, .putfield 76), (49, 1, .iconst 0), (50, 1, .istore_n 1), (51, 1, .iload_n 1), (52, 2, .bipush 124), (54, 3, .if_icmp .ge 29), (57, 1, .aload_n 0), (58, 3, .getfield 13), (61, 2, .bipush 124), (63, 1, .aload_n 0), (64, 3, .getfield 76), (67, 1, .imul), (68, 1, .iload_n 1), (69, 1, .iadd), (70, 1, .aload_n 0), (71, 3, .getfield 19), (74, 1, .iload_n 1), (75, 1, .iaload), (76, 1, .iastore), (77, 3, .iinc 1 1), (80, 3, .goto (-29)), (83, 1, .aload_n 0), (84, 1, .dup), (85, 3, .getfield 76), (88, 1, .iconst 1), (89, 1, .iadd), (90, 3, .putfield 76), (93, 1, .return_)]
def zc_164 : List (Nat × Nat × Instr) := [(0, 1, .iload_n 1), (1, 3, .ifCond .ge 9), (4, 1, .iload_n 1), (5, 2, .bipush (-104)), (7, 3, .if_icmp .ne 7), (10, 1, .aload_n 0), (11, 3, .invokevirtual 79), (14, 1, .iload_n 1), (15, 1, .ireturn)]
def zc_165 : List (Nat × Nat × Instr) := [(0, 1, .iconst 0), (1, 1, .istore_n 3), (2, 1, .iload_n 3), (3, 1, .aload_n 0), (4, 3, .getfield 7), (7, 2, .bipush 120), (9, 1, .iaload), (10, 3, .if_icmp .ge 57), (13, 1, .iload_n 1), (14, 1, .aload_n 0), (15, 1, .iload_n 3), (16, 1, .iconst 0), (17, 3, .invokevirtual 62), (20, 1, .isub), (21, 1, .iconst 0), (22, 1, .aload_n 0), (23, 1, .iload_n 3), (24, 1, .iconst 2), (25, 3, .invokevirtual 62), (28, 1, .iconst 1), (29, 1, .isub), (30, 3, .invokestatic 58), (33, 3, .ifCond .eq 28), (36, 1, .iload_n 2), (37, 1, .aload_n 0), (38, 1, .iload_n 3), (39, 1, .iconst 1), (40, 3, .invokevirtual 62), (43, 1, .isub), (44, 1, .iconst 0), (45, 1, .aload_n 0), (46, 1, .iload_n 3), (47, 1, .iconst 3), (48, 3, .invokevirtual 62), (51, 1, .iconst 1), (52, 1, .isub), (53, 3, .invokestatic 58), (56, 3, .ifCond .eq 5), (59, 1, .iload_n 3), (60, 1, .ireturn), (61, 3, .iinc 3 1), (64, 3, .goto (-62)), (67, 1, .iconst (-1)), (68, 1, .ireturn)]
def zc_166 : List (Nat × Nat × Instr) := [(0, 1, .iload_n 3), (1, 1, .iconst 2), (2, 2, .bipush 12), (4, 3, .invokestatic 58), (7, 3, .ifCond .eq 39), (10, 2, .iload 4), (12, 1, .iconst 2), (13, 2, .bipush 12), (15, 3, .invokestatic 58), (18, 3, .ifCond .eq 28), (21, 1, .iload_n 1), (22, 1, .iconst 0), (23, 2, .bipush 24), (25, 1, .iload_n 3), (26, 1, .isub), (27, 3, .invokestatic 58), (30, 3, .ifCond .eq 16), (33, 1, .iload_n 2), (34, 1, .iconst 0), (35, 2, .bipush 16), (37, 2, .iload 4), (39, 1, .isub), (40, 3, .invokestatic 58), (43, 3, .ifCond .ne 6), (46, 2, .bipush (-102)), (48, 1, .ireturn), (49, 1, .iload_n 1), (50, 2, .istore 5), (52, 2, .iload 5), (54, 1, .iload_n 1), (55, 1, .iload_n 3), (56, 1, .iadd), (57, 3, .if_icmp .ge 41), (60, 1, .iload_n 2), (61, 2, .istore 6), (63, 2, .iload 6), (65, 1, .iload_n 2), (66, 2, .iload 4), (68, 1, .iadd), (69, 3, .if_icmp .ge 23), (72, 1, .aload_n 0), (73, 2, .iload 5), (75, 2, .iload 6), (77, 3, .invokevirtual 82), (80, 3, .ifCond .lt 6), (83, 2, .bipush (-106)), (85, 1, .ireturn), (86, 3, .iinc 6 1), (89, 3, .goto (-26)), (92, 3, .iinc 5 1), (95, 3, .goto (-43)), (98, 1, .aload_n 0), (99, 3, .getfield 7), (102, 2, .bipush 120), (104, 1, .iaload), (105, 2, .bipush 12), (107, 3, .if_icmp .ne 6), (110, 2, .bipush (-103)), (112, 1, .ireturn), (113, 1, .iconst 0), (114, 1, .iconst 5), (115, 1, .aload_n 0), (116, 3, .getfield 7), (119, 2, .bipush 120), (121, 1, .iaload), (122, 1, .imul), (123, 1, .iadd), (124, 2, .istore 5), (126, 1, .aload_n 0), (127, 3, .getfield 7), (130, 2, .iload 5), (132, 1, .iload_n 1), (133, 1, .iastore), (134, 1, .aload_n 0), (135, 3, .getfield 7), (138, 2, .iload 5), (140, 1, .iconst 1), (141, 1, .iadd), (142, 1, .iload_n 2), (143, 1, .iastore), (144, 1, .aload_n 0), (145, 3, .getfield 7), (148, 2, .iload 5), (150, 1, .iconst 2), (151, 1, .iadd), (152, 1, .iload_n 3), (153, 1, .iastore), (154, 1, .aload_n 0), (155, 3, .getfield 7), (158, 2, .iload 5), (160, 1, .iconst 3), (161, 1, .iadd), (162, 2, .iload 4), (164, 1, .iastore), (165, 1, .aload_n 0), (166, 3, .getfield 7), (169, 2, .iload 5), (171, 1, .iconst 4), (172, 1, .iadd), (173, 1, .iconst (-1)), (174, 1, .iastore), (175, 1, .aload_n 0), (176, 3, .getfield 7), (179, 2, .bipush 120), (181, 1, .dup2), (182, 1, .iaload), (183, 1, .iconst 1), (184, 1, .iadd), (185, 1, .iastore), (186, 1, .aload_n 0), (187, 3, .getfield 7), (190, 2, .bipush 120), (192, 1, .iaload), (193, 1, .iconst 1), (194, 1, .isub), (195, 1, .ireturn)]
def zc_167 : List (Nat × Nat × Instr) := [(0, 1, .iconst 0), (1, 1, .istore_n 3), (2, 1, .iload_n 3), (3, 1, .aload_n 0), (4, 3, .getfield 7), (7, 2, .bipush 121), (9, 1, .iaload), (10, 3, .if_icmp .ge 51), (13, 1, .aload_n 0), (14, 1, .iload_n 3), (15, 1, .iconst 0), (16, 3, .invokevirtual 85), (19, 1, .iload_n 1), (20, 3, .if_icmp .ne 13), (23, 1, .aload_n 0), (24, 1, .iload_n 3), (25, 1, .iconst 1), (26, 3, .invokevirtual 85), (29, 1, .iload_n 2), (30, 3, .if_icmp .eq 23), (33, 1, .aload_n 0), (34, 1, .iload_n 3), (35, 1, .iconst 0), (36, 3, .invokevirtual 85), (39, 1, .iload_n 2), (40, 3, .if_icmp .ne 15), (43, 1, .aload_n 0), (44, 1, .iload_n 3), (45, 1, .iconst 1), (46, 3, .invokevirtual 85), (49, 1, .iload_n 1), (50, 3, .if_icmp .ne 5), (53, 1, .iload_n 3), (54, 1, .ireturn), (55, 3, .iinc 3 1), (58, 3, .goto (-56)), (61, 1, .iconst (-1)), (62, 1, .ireturn)]
def zc_168 : List (Nat × Nat × Instr) := [(0, 1, .aload_n 0), (1, 1, .iload_n 1), (2, 3, .invokevirtual 88), (5, 3, .ifCond .eq 11), (8, 1, .aload_n 0), (9, 1, .iload_n 2), (10, 3, .invokevirtual 88), (13, 3, .ifCond .ne 6), (16, 2, .bipush (-101)), (18, 1, .ireturn), (19, 1, .iload_n 1), (20, 1, .iload_n 2), (21, 3, .if_icmp .ne 6), (24, 2, .bipush (-102)), (26, 1, .ireturn), (27, 1, .aload_n 0), (28, 1, .iload_n 1), (29, 1, .iload_n 2), (30, 3, .invokevirtual 92), (33, 3, .ifCond .lt 6), (36, 2, .bipush (-106)), (38, 1, .ireturn), (39, 1, .aload_n 0), (40, 3, .getfield 7), (43, 2, .bipush 121), (45, 1, .iaload), (46, 2, .bipush 20), (48, 3, .if_icmp .ne 6), (51, 2, .bipush (-103)), (53, 1, .ireturn), (54, 2, .bipush 60), (56, 1, .iconst 3), (57, 1, .aload_n 0), (58, 3, .getfield 7), (61, 2, .bipush 121), (63, 1, .iaload), (64, 1, .imul), (65, 1, .iadd), (66, 1, .istore_n 3), (67, 1, .aload_n 0), (68, 3, .getfield 7), (71, 1, .iload_n 3), (72, 1, .iload_n 1), (73, 1, .iload_n 2), (74, 3, .if_icmp .ge 7), (77, 1, .iload_n 1), (78, 3, .goto 4), (81, 1, .iload_n 2), (82, 1, .iastore), (83, 1, .aload_n 0), (84, 3, .getfield 7), (87, 1, .iload_n 3), (88, 1, .iconst 1), (89, 1, .iadd), (90, 1, .iload_n 1), (91, 1, .iload_n 2), (92, 3, .if_icmp .ge 7), (95, 1, .iload_n 2), (96, 3, .goto 4), (99, 1, .iload_n 1), (100, 1, .iastore), (101, 1, .aload_n 0), (102, 3, .getfield 7), (105, 1, .iload_n 3), (106, 1, .iconst 2), (107, 1, .iadd), (108, 1, .iconst (-1)), (109, 1, .iastore), (110, 1, .aload_n 0), (111, 3, .getfield 7), (114, 2, .bipush 121), (116, 1, .dup2), (117, 1, .iaload), (118, 1, .iconst 1), (119, 1, .iadd), (120, 1, .iastore), (121, 1, .aload_n 0), (122, 3, .getfield 7), (125, 2, .bipush 121), (127, 1, .iaload), (128, 1, .iconst 1), (129, 1, .isub), (130, 1, .ireturn)]
def zc_169 : List (Nat × Nat × Instr) := [(0, 1, .iload_n 0), (1, 1, .iconst (-1)), (2, 3, .if_icmp .ne 8), (5, 2, .bipush (-104)), (7, 3, .goto 4), (10, 1, .iload_n 0), (11, 1, .ireturn)]
def zc_170 : List (Nat × Nat × Instr) := [(0, 1, .aload_n 0), (1, 1, .iload_n 1), (2, 3, .invokevirtual 95), (5, 3, .ifCond .ne 6), (8, 2, .bipush (-101)), (10, 1, .ireturn), (11, 1, .iload_n 2), (12, 1, .iconst (-1)), (13, 1, .iconst 5), (14, 3, .invokestatic 58), (17, 3, .ifCond .ne 6), (20, 2, .bipush (-102)), (22, 1, .ireturn), (23, 1, .aload_n 0), (24, 1, .iload_n 1), (25, 1, .iconst 2), (26, 3, .invokevirtual 85), (29, 1, .istore_n 3), (30, 1, .aload_n 0), (31, 3, .getfield 7), (34, 2, .bipush 60), (36, 1, .iconst 3), (37, 1, .iload_n 1), (38, 1, .imul), (39, 1, .iadd), (40, 1, .iconst 2), (41, 1, .iadd), (42, 1, .iload_n 2), (43, 1, .iastore), (44, 1, .iload_n 3), (45, 3, .invokestatic 98), (48, 1, .ireturn)]
def zc_171 : List (Nat × Nat × Instr) := [(0, 1, .aload_n 0), (1, 1, .iload_n 1), (2, 3, .invokevirtual 88), (5, 3, .ifCond .ne 6), (8, 2, .bipush (-101)), (10, 1, .ireturn), (11, 1, .iload_n 2), (12, 1, .iconst (-1)), (13, 1, .iconst 5), (14, 3, .invokestatic 58), (17, 3, .ifCond .ne 6), (20, 2, .bipush (-102)), (22, 1, .ireturn), (23, 1, .aload_n 0), (24, 1, .iload_n 1), (25, 1, .iconst 4), (26, 3, .invokevirtual 62), (29, 1, .istore_n 3), (30, 1, .aload_n 0), (31, 3, .getfield 7), (34, 1, .iconst 0), (35, 1, .iconst 5), (36, 1, .iload_n 1), (37, 1, .imul), (38, 1, .iadd), (39, 1, .iconst 4), (40, 1, .iadd), (41, 1, .iload_n 2), (42, 1, .iastore), (43, 1, .iload_n 3), (44, 3, .invokestatic 98), (47, 1, .ireturn)]
def zc_172 : List (Nat × Nat × Instr) := [(0, 1, .aload_n 0), (1, 1, .iload_n 1), (2, 3, .invokevirtual 88), (5, 3, .ifCond .ne 6), (8, 2, .bipush (-101)), (10, 1, .ireturn), (11, 1, .aload_n 0), (12, 3, .getfield 7), (15, 2, .bipush 122), (17, 1, .iaload), (18, 1, .istore_n 2), (19, 1, .aload_n 0), (20, 3, .getfield 7), (23, 2, .bipush 122), (25, 1, .iload_n 1), (26, 1, .iastore), (27, 1, .iload_n 2), (28, 1, .ireturn)]
def zc_173 : List (Nat × Nat × Instr) := [(0, 1, .aload_n 0), (1, 3, .getfield 7), (4, 2, .bipush 121), (6, 1, .dup2), (7, 1, .iaload), (8, 1, .iconst 1), (9, 1, .isub), (10, 1, .iastore), (11, 2, .bipush 60), (13, 1, .iconst 3), (14, 1, .iload_n 1), (15, 1, .imul), (16, 1, .iadd), (17, 1, .istore_n 2), (18, 1, .iload_n 2), (19, 2, .bipush 60), (21, 1, .iconst 3), (22, 1, .aload_n 0), (23, 3, .getfield 7), (26, 2, .bipush 121), (28, 1, .iaload), (29, 1, .imul), (30, 1, .iadd), (31, 3, .if_icmp .ge 23), (34, 1, .aload_n 0), (35, 3, .getfield 7), (38, 1, .iload_n 2), (39, 1, .aload_n 0), (40, 3, .getfield 7), (43, 1, .iload_n 2), (44, 1, .iconst 3), (45, 1, .iadd), (46, 1, .iaload), (47, 1, .iastore), (48, 3, .iinc 2 1), (51, 3, .goto (-33)), (54, 1, .return_)]
def zc_174 : List (Nat × Nat × Instr) := [(0, 1, .aload_n 0), (1, 3, .invokevirtual 101), (4, 1, .aload_n 0), (5, 1, .aload_n 0), (6, 1, .iload_n 1), (7, 1, .iload_n 2), (8, 1, .iload_n 3), (9, 2, .iload 4), (11, 3, .invokevirtual 104), (14, 3, .invokevirtual 108), (17, 1, .ireturn)]
def zc_175 : List (Nat × Nat × Instr) := [(0, 1, .aload_n 0), (1, 3, .invokevirtual 101), (4, 1, .aload_n 0), (5, 1, .aload_n 0), (6, 1, .iload_n 1), (7, 1, .iload_n 2), (8, 3, .invokevirtual 111), (11, 3, .invokevirtual 108), (14, 1, .ireturn)]
def zc_176 : List (Nat × Nat × Instr) := [(0, 1, .aload_n 0), (1, 3, .invokevirtual 101), (4, 1, .aload_n 0), (5, 1, .aload_n 0), (6, 1, .iload_n 1), (7, 1, .iload_n 2), (8, 3, .invokevirtual 114), (11, 3, .invokevirtual 108), (14, 1, .ireturn)]
def zc_177 : List (Nat × Nat × Instr) := [(0, 1, .aload_n 0), (1, 3, .invokevirtual 101), (4, 1, .aload_n 0), (5, 1, .aload_n 0), (6, 1, .iload_n 1), (7, 1, .iload_n 2), (8, 3, .invokevirtual 117), (11, 3, .invokevirtual 108), (14, 1, .ireturn)]
def zc_178 : List (Nat × Nat × Instr) := [(0, 1, .aload_n 0), (1, 3, .invokevirtual 101), (4, 1, .aload_n 0), (5, 1, .aload_n 0), (6, 1, .iload_n 1), (7, 3, .invokevirtual 120), (10, 3, .invokevirtual 108), (13, 1, .ireturn)]
def zc_179 : List (Nat × Nat × Instr) := [(0, 1, .aload_n 0), (1, 1, .iload_n 1), (2, 3, .invokevirtual 88), (5, 3, .ifCond .ne 6), (8, 2, .bipush (-101)), (10, 1, .ireturn), (11, 1, .aload_n 0), (12, 3, .invokevirtual 101), (15, 1, .aload_n 0), (16, 3, .getfield 7), (19, 2, .bipush 121), (21, 1, .iaload), (22, 1, .iconst 1), (23, 1, .isub), (24, 1, .istore_n 2), (25, 1, .iload_n 2), (26, 3, .ifCond .lt 34), (29, 1, .aload_n 0), (30, 1, .iload_n 2), (31, 1, .iconst 0), (32, 3, .invokevirtual 85), (35, 1, .iload_n 1), (36, 3, .if_icmp .eq 13), (39, 1, .aload_n 0), (40, 1, .iload_n 2), (41, 1, .iconst 1), (42, 3, .invokevirtual 85), (45, 1, .iload_n 1), (46, 3, .if_icmp .ne 8), (49, 1, .aload_n 0), (50, 1, .iload_n 2), (51, 3, .invokevirtual 123), (54, 3, .iinc 2 (-1)), (57, 3, .goto (-32)), (60, 1, .iconst 0), (61, 1, .istore_n 2), (62, 1, .iload_n 2), (63, 1, .aload_n 0), (64, 3, .getfield 7), (67, 2, .bipush 121), (69, 1, .iaload), (70, 3, .if_icmp .ge 53), (73, 1, .iconst 0), (74, 1, .istore_n 3), (75, 1, .iload_n 3), (76, 1, .iconst 2), (77, 3, .if_icmp .ge 40), (80, 1, .aload_n 0), (81, 3, .getfield 7), (84, 2, .bipush 60), (86, 1, .iconst 3), (87, 1, .iload_n 2), (88, 1, .imul), (89, 1, .iadd), (90, 1, .iload_n 3), (91, 1, .iadd), (92, 1, .dup2), (93, 1, .iaload), (94, 1, .aload_n 0), (95, 1, .iload_n 2), (96, 1, .iload_n 3), (97, 3, .invokevirtual 85), (100, 1, .iload_n 1), (101, 3, .if_icmp .le 7), (104, 1, .iconst 1), (105, 3, .goto 4), (108, 1, .iconst 0), (109, 1, .isub), (110, 1, .iastore), (111, 3, .iinc 3 1), (114, 3, .goto (-39)), (117, 3, .iinc 2 1), (120, 3, .goto (-58)), (123, 1, .aload_n 0), (124, 3, .getfield 7), (127, 2, .bipush 120), (129, 1, .dup2), (130, 1, .iaload), (131, 1, .iconst 1), (132, 1, .isub), (133, 1, .iastore), (134, 1, .iconst 5), (135, 1, .iload_n 1), (136, 1, .imul), (137, 1, .istore_n 2), (138, 1, .iload_n 2), (139, 1, .iconst 5), (140, 1, .aload_n 0), (141, 3, .getfield 7), (144, 2, .bipush 120), (146, 1, .iaload), (147, 1, .imul), (148, 3, .if_icmp .ge 27), (151, 1, .aload_n 0), (152, 3, .getfield 7), (155, 1, .iconst 0), (156, 1, .iload_n 2), (157, 1, .iadd), (158, 1, .aload_n 0), (159, 3, .getfield 7), (162, 1, .iconst 0), (163, 1, .iload_n 2), (164, 1, .iadd), (165, 1, .iconst 5), (166, 1, .iadd), (167, 1, .iaload), (168, 1, .iastore), (169, 3, .iinc 2 1), (172, 3, .goto (-34)), (175, 1, .aload_n 0), (176, 3, .getfield 7), (179, 2, .bipush 122), (181, 1, .aload_n 0), (182, 3, .getfield 7), (185, 2, .bipush 122), (187, 1, .iaload), (188, 1, .iload_n 1), (189, 3, .if_icmp .ne 7), (192, 1, .iconst 0), (193, 3, .goto 33), (196, 1, .aload_n 0), (197, 3, .getfield 7), (200, 2, .bipush 122), (202, 1, .iaload), (203, 1, .iload_n 1), (204, 3, .if_icmp .le 15), (207, 1, .aload_n 0), (208, 3, .getfield 7), (211, 2, .bipush 122), (213, 1, .iaload), (214, 1, .iconst 1), (215, 1, .isub), (216, 3, .goto 10), (219, 1, .aload_n 0), (220, 3, .getfield 7), (223, 2, .bipush 122), (225, 1, .iaload), (226, 1, .iastore), (227, 1, .aload_n 0), (228, 3, .invokevirtual 79), (231, 1, .aload_n 0), (232, 3, .getfield 7), (235, 2, .bipush 120), (237, 1, .iaload), (238, 1, .ireturn)]
def zc_180 : List (Nat × Nat × Instr) := [(0, 1, .aload_n 0), (1, 1, .iload_n 1), (2, 3, .invokevirtual 95), (5, 3, .ifCond .ne 6), (8, 2, .bipush (-101)), (10, 1, .ireturn), (11, 1, .aload_n 0), (12, 3, .invokevirtual 101), (15, 1, .aload_n 0), (16, 1, .iload_n 1), (17, 3, .invokevirtual 123), (20, 1, .aload_n 0), (21, 3, .invokevirtual 79), (24, 1, .aload_n 0), (25, 3, .getfield 7), (28, 2, .bipush 121), (30, 1, .iaload), (31, 1, .ireturn)]
def zc_181 : List (Nat × Nat × Instr) := [(0, 1, .aload_n 0), (1, 1, .aload_n 0), (2, 3, .getfield 127), (5, 2, .ldc 130), (7, 1, .imul), (8, 3, .sipush 12345), (11, 1, .iadd), (12, 3, .putfield 127), (15, 1, .aload_n 0), (16, 3, .getfield 127), (19, 2, .bipush 16), (21, 1, .iushr), (22, 3, .sipush 32767), (25, 1, .iand), (26, 1, .iload_n 1), (27, 1, .irem), (28, 1, .ireturn)]
def zc_182 : List (Nat × Nat × Instr) := [(0, 2, .iload 5), (2, 3, .ifCond .eq 16), (5, 1, .iload_n 3), (6, 2, .bipush 10), (8, 3, .if_icmp .ge 68), (11, 2, .iload 4), (13, 2, .bipush 10), (15, 3, .if_icmp .ge 61), (18, 1, .iconst 4), (19, 1, .aload_n 0), (20, 3, .getfield 131), (23, 1, .imul), (24, 2, .istore 6), (26, 1, .aload_n 0), (27, 3, .getfield 22), (30, 2, .iload 6), (32, 1, .iload_n 1), (33, 1, .iastore), (34, 1, .aload_n 0), (35, 3, .getfield 22), (38, 2, .iload 6), (40, 1, .iconst 1), (41, 1, .iadd), (42, 1, .iload_n 2), (43, 1, .iastore), (44, 1, .aload_n 0), (45, 3, .getfield 22), (48, 2, .iload 6), (50, 1, .iconst 2), (51, 1, .iadd), (52, 1, .iload_n 3), (53, 1, .iastore), (54, 1, .aload_n 0), (55, 3, .getfield 22), (58, 2, .iload 6), (60, 1, .iconst 3), (61, 1, .iadd), (62, 2, .iload 4), (64, 1, .iastore), (65, 1, .aload_n 0), (66, 1, .dup), (67, 3, .getfield 131), (70, 1, .iconst 1), (71, 1, .iadd), (72, 3, .putfield 131), (75, 1, .return_), (76, 1, .iload_n 3), (77, 2, .bipush 10), (79, 3, .if_icmp .lt 26), (82, 2, .iload 4), (84, 2, .bipush 10), (86, 3, .if_icmp .lt 19), (89, 1, .aload_n 0), (90, 1, .iconst 2), (91, 3, .invokevirtual 134), (94, 3, .ifCond .ne 7), (97, 1, .iconst 1), (98, 3, .goto 18), (101, 1, .iconst 0), (102, 3, .goto 14), (105, 1, .iload_n 3), (106, 2, .bipush 10), (108, 3, .if_icmp .lt 7), (111, 1, .iconst 1), (112, 3, .goto 4), (115, 1, .iconst 0), (116, 2, .istore 6), (118, 1, .iconst 5), (119, 1, .aload_n 0), (120, 2, .iload 6), (122, 3, .ifCond .eq 7), (125, 1, .iload_n 3), (126, 3, .goto 5), (129, 2, .iload 4), (131, 2, .bipush 9), (133, 1, .isub), (134, 3, .invokevirtual 134), (137, 1, .iadd), (138, 2, .istore 7), (140, 1, .aload_n 0), (141, 3, .getfield 131), (144, 2, .istore 8), (146, 1, .aload_n 0), (147, 1, .iload_n 1), (148, 1, .iload_n 2), (149, 2, .iload 6), (151, 3, .ifCond .eq 8), (154, 2, .iload 7), (156, 3, .goto 4), (159, 1, .iload_n 3), (160, 2, .iload 6), (162, 3, .ifCond .eq 8), (165, 2, .iload 4), (167, 3, .goto 5), (170, 2, .iload 7), (172, 2, .iload 5), (174, 1, .iconst 1), (175, 1, .isub), (176, 3, .invokestatic 137), (179, 1, .aload_n 0), (180, 3, .getfield 131), (183, 2, .istore 9), (185, 1, .aload_n 0), (186, 2, .iload 6), (188, 3, .ifCond .eq 10), (191, 1, .iload_n 1), (192, 2, .iload 7), (194, 1, .iadd), (195, 3, .goto 4), (198, 1, .iload_n 1), (199, 2, .iload 6), (201, 3, .ifCond .eq 7), (204, 1, .iload_n 2), (205, 3, .goto 7), (208, 1, .iload_n 2), (209, 2, .iload 7), (211, 1, .iadd), (212, 2, .iload 6), (214, 3, .ifCond .eq 10), (217, 1, .iload_n 3), (218, 2, .iload 7), (220, 1, .isub), (221, 3, .goto 4), (224, 1, .iload_n 3), (225, 2, .iload 6), (227, 3, .ifCond .eq 8), (230, 2, .iload 4), (232, 3, .goto 8), (235, 2, .iload 4), (237, 2, .iload 7), (239, 1, .isub), (240, 2, .iload 5), (242, 1, .iconst 1), (243, 1, .isub), (244, 3, .invokestatic 137), (247, 1, .iconst 3), (248, 1, .aload_n 0), (249, 3, .getfield 141), (252, 1, .imul), (253, 2, .istore 10), (255, 1, .aload_n 0), (256, 3, .getfield 25), (259, 2, .iload 10), (261, 2, .iload 8), (263, 1, .iastore), (264, 1, .aload_n 0), (265, 3, .getfield 25), (268, 2, .iload 10), (270, 1, .iconst 1), (271, 1, .iadd), (272, 2, .iload 9), (274, 1, .iastore), (275, 1, .aload_n 0), (276, 3, .getfield 25), (279, 2, .iload 10), (281, 1, .iconst 2), (282, 1, .iadd), (283, 1, .aload_n 0), (284, 3, .getfield 131), (287, 1, .iastore), (288, 1, .aload_n 0), (289, 1, .dup), (290, 3, .getfield 141), (293, 1, .iconst 1), (294, 1, .iadd), (295, 3, .putfield 141), (298, 1, .return_)]
def zc_183 : List (Nat × Nat × Instr) := [(0, 1, .iload_n 0), (1, 1, .iload_n 1), (2, 3, .if_icmp .ge 7), (5, 1, .iload_n 0), (6, 3, .goto 4), (9, 1, .iload_n 1), (10, 1, .ireturn)]
def zc_184 : List (Nat × Nat × Instr) := [(0, 1, .iload_n 1), (1, 2, .istore 4), (3, 1, .iload_n 2), (4, 2, .istore 5), (6, 1, .iload_n 1), (7, 2, .istore 6), (9, 2, .iload 6), (11, 1, .iload_n 2), (12, 3, .if_icmp .ge 51), (15, 1, .iload_n 2), (16, 2, .istore 7), (18, 2, .iload 7), (20, 1, .iload_n 3), (21, 3, .if_icmp .ge 36), (24, 1, .aload_n 0), (25, 2, .iload 6), (27, 2, .iload 7), (29, 3, .invokevirtual 144), (32, 1, .aload_n 0), (33, 2, .iload 4), (35, 2, .iload 5), (37, 3, .invokevirtual 144), (40, 3, .if_icmp .ge 11), (43, 2, .iload 6), (45, 2, .istore 4), (47, 2, .iload 7), (49, 2, .istore 5), (51, 3, .iinc 7 1), (54, 3, .goto (-36)), (57, 3, .iinc 6 1), (60, 3, .goto (-51)), (63, 1, .aload_n 0), (64, 2, .iload 4), (66, 2, .iload 5), (68, 3, .invokevirtual 111), (71, 2, .istore 6), (73, 1, .return_)]
def zc_185 : List (Nat × Nat × Instr) := [(0, 1, .iload_n 2), (1, 1, .iconst 0), (2, 1, .iconst 5), (3, 3, .invokestatic 58), (6, 3, .ifCond .ne 6), (9, 2, .bipush (-102)), (11, 1, .ireturn), (12, 1, .aload_n 0), (13, 3, .invokevirtual 101), (16, 1, .aload_n 0), (17, 3, .getfield 7), (20, 2, .bipush 123), (22, 1, .iaload), (23, 1, .istore_n 3), (24, 1, .iconst 0), (25, 2, .istore 4), (27, 2, .iload 4), (29, 2, .bipush 124), (31, 3, .if_icmp .ge 17), (34, 1, .aload_n 0), (35, 3, .getfield 7), (38, 2, .iload 4), (40, 1, .iconst 0), (41, 1, .iastore), (42, 3, .iinc 4 1), (45, 3, .goto (-18)), (48, 1, .aload_n 0), (49, 3, .getfield 7), (52, 2, .bipush 123), (54, 1, .iload_n 3), (55, 1, .iastore), (56, 1, .aload_n 0), (57, 1, .iload_n 1), (58, 3, .putfield 127), (61, 1, .aload_n 0), (62, 1, .iconst 0), (63, 3, .putfield 131), (66, 1, .aload_n 0), (67, 1, .iconst 0), (68, 3, .putfield 141), (71, 1, .aload_n 0), (72, 1, .iconst 0), (73, 1, .iconst 0), (74, 2, .bipush 24), (76, 2, .bipush 16), (78, 1, .iload_n 2), (79, 3, .invokestatic 137), (82, 1, .iconst 0), (83, 2, .istore 4), (85, 2, .iload 4), (87, 1, .aload_n 0), (88, 3, .getfield 131), (91, 3, .if_icmp .ge 145), (94, 2, .bipush 12), (96, 1, .iconst 3), (97, 1, .aload_n 0), (98, 1, .aload_n 0), (99, 3, .getfield 22), (102, 1, .iconst 4), (103, 2, .iload 4), (105, 1, .imul), (106, 1, .iconst 2), (107, 1, .iadd), (108, 1, .iaload), (109, 1, .iconst 4), (110, 1, .isub), (111, 3, .invokevirtual 134), (114, 1, .iadd), (115, 3, .invokestatic 147), (118, 2, .istore 5), (120, 2, .bipush 12), (122, 1, .iconst 3), (123, 1, .aload_n 0), (124, 1, .aload_n 0), (125, 3, .getfield 22), (128, 1, .iconst 4), (129, 2, .iload 4), (131, 1, .imul), (132, 1, .iconst 3), (133, 1, .iadd), (134, 1, .iaload), (135, 1, .iconst 4), (136, 1, .isub), (137, 3, .invokevirtual 134), (140, 1, .iadd), (141, 3, .invokestatic 147), (144, 2, .istore 6), (146, 1, .aload_n 0), (147, 3, .getfield 22), (150, 1, .iconst 4), (151, 2, .iload 4), (153, 1, .imul), (154, 1, .iaload), (155, 1, .iconst 1), (156, 1, .iadd), (157, 1, .aload_n 0), (158, 1, .aload_n 0), (159, 3, .getfield 22), (162, 1, .iconst 4), (163, 2, .iload 4), (165, 1, .imul), (166, 1, .iconst 2), (167, 1, .iadd), (168, 1, .iaload), (169, 2, .iload 5), (171, 1, .isub), (172, 1, .iconst 1), (173, 1, .isub), (174, 3, .invokevirtual 134), (177, 1, .iadd), (178, 2, .istore 7), (180, 1, .aload_n 0), (181, 3, .getfield 22), (184, 1, .iconst 4), (185, 2, .iload 4), (187, 1, .imul), (188, 1, .iconst 1), (189, 1, .iadd), (190, 1, .iaload), (191, 1, .iconst 1), (192, 1, .iadd), (193, 1, .aload_n 0), (194, 1, .aload_n 0), (195, 3, .getfield 22), (198, 1, .iconst 4), (199, 2, .iload 4), (201, 1, .imul), (202, 1, .iconst 3), (203, 1, .iadd), (204, 1, .iaload), (205, 2, .iload 6), (207, 1, .isub), (208, 1, .iconst 1), (209, 1, .isub), (210, 3, .invokevirtual 134), (213, 1, .iadd), (214, 2, .istore 8), (216, 1, .aload_n 0), (217, 2, .iload 7), (219, 2, .iload 8), (221, 2, .iload 5), (223, 2, .iload 6), (225, 3, .invokevirtual 104), (228, 2, .istore 9), (230, 3, .iinc 4 1), (233, 3, .goto (-148)), (236, 1, .iconst 0), (237, 2, .istore 4), (239, 2, .iload 4), (241, 1, .aload_n 0), (242, 3, .getfield 141), (245, 3, .if_icmp .ge 44), (248, 1, .aload_n 0), (249, 1, .aload_n 0), (250, 3, .getfield 25), (253, 1, .iconst 3), (254, 2, .iload 4), (256, 1, .imul), (257, 1, .iaload), (258, 1, .aload_n 0), (259, 3, .getfield 25), (262, 1, .iconst 3), (263, 2, .iload 4), (265, 1, .imul), (266, 1, .iconst 1), (267, 1, .iadd), (268, 1, .iaload), (269, 1, .aload_n 0), (270, 3, .getfield 25), (273, 1, .iconst 3), (274, 2, .iload 4), (276, 1, .imul), (277, 1, .iconst 2), (278, 1, .iadd), (279, 1, .iaload), (280, 3, .invokevirtual 150), (283, 3, .iinc 4 1), (286, 3, .goto (-47)), (289, 1, .aload_n 0), (290, 3, .invokevirtual 79), (293, 1, .aload_n 0), (294, 3, .getfield 7), (297, 2, .bipush 120), (299, 1, .iaload), (300, 1, .ireturn)]
def zc_186 : List (Nat × Nat × Instr) := [(0, 1, .iconst (-1)), (1, 1, .istore_n 1), (2, 1, .iconst (-1)), (3, 1, .istore_n 2), (4, 1, .iconst 0), (5, 1, .istore_n 3), (6, 1, .iload_n 3), (7, 1, .aload_n 0), (8, 3, .getfield 7), (11, 2, .bipush 120), (13, 1, .iaload), (14, 3, .if_icmp .ge 69), (17, 1, .iload_n 3), (18, 1, .iconst 1), (19, 1, .iadd), (20, 2, .istore 4), (22, 2, .iload 4), (24, 1, .aload_n 0), (25, 3, .getfield 7), (28, 2, .bipush 120), (30, 1, .iaload), (31, 3, .if_icmp .ge 46), (34, 1, .aload_n 0), (35, 1, .iload_n 3), (36, 2, .iload 4), (38, 3, .invokevirtual 92), (41, 1, .iconst (-1)), (42, 3, .if_icmp .ne 29), (45, 1, .iload_n 1), (46, 1, .iconst (-1)), (47, 3, .if_icmp .eq 19), (50, 1, .aload_n 0), (51, 1, .iload_n 3), (52, 2, .iload 4), (54, 3, .invokevirtual 144), (57, 1, .aload_n 0), (58, 1, .iload_n 1), (59, 1, .iload_n 2), (60, 3, .invokevirtual 144), (63, 3, .if_icmp .ge 8), (66, 1, .iload_n 3), (67, 1, .istore_n 1), (68, 2, .iload 4), (70, 1, .istore_n 2), (71, 3, .iinc 4 1), (74, 3, .goto (-52)), (77, 3, .iinc 3 1), (80, 3, .goto (-74)), (83, 1, .iload_n 1), (84, 1, .iconst (-1)), (85, 3, .if_icmp .ne 6), (88, 2, .bipush (-104)), (90, 1, .ireturn), (91, 1, .aload_n 0), (92, 3, .invokevirtual 101), (95, 1, .aload_n 0), (96, 1, .iload_n 1), (97, 1, .iload_n 2), (98, 3, .invokevirtual 111), (101, 1, .istore_n 3), (102, 1, .iload_n 3), (103, 3, .ifCond .lt 7), (106, 1, .aload_n 0), (107, 3, .invokevirtual 79), (110, 1, .iload_n 3), (111, 1, .ireturn)]
def zc_187 : List (Nat × Nat × Instr) := [(0, 1, .iconst 0), (1, 1, .istore_n 3), (2, 1, .iload_n 3), (3, 2, .bipush 12), (5, 3, .if_icmp .ge 36), (8, 1, .aload_n 0), (9, 3, .getfield 28), (12, 1, .iload_n 3), (13, 1, .iload_n 3), (14, 1, .iload_n 1), (15, 3, .if_icmp .ne 18), (18, 1, .iload_n 3), (19, 1, .aload_n 0), (20, 3, .getfield 7), (23, 2, .bipush 120), (25, 1, .iaload), (26, 3, .if_icmp .ge 7), (29, 1, .iconst 0), (30, 3, .goto 4), (33, 1, .iconst (-1)), (34, 1, .iastore), (35, 3, .iinc 3 1), (38, 3, .goto (-36)), (41, 1, .iconst 0), (42, 1, .istore_n 3), (43, 1, .iload_n 3), (44, 2, .bipush 12), (46, 3, .if_icmp .ge 127), (49, 1, .iconst 0), (50, 2, .istore 4), (52, 2, .iload 4), (54, 1, .aload_n 0), (55, 3, .getfield 7), (58, 2, .bipush 121), (60, 1, .iaload), (61, 3, .if_icmp .ge 106), (64, 1, .aload_n 0), (65, 2, .iload 4), (67, 1, .iconst 0), (68, 3, .invokevirtual 85), (71, 2, .istore 5), (73, 1, .aload_n 0), (74, 2, .iload 4), (76, 1, .iconst 1), (77, 3, .invokevirtual 85), (80, 2, .istore 6), (82, 2, .iload 4), (84, 1, .iload_n 2), (85, 3, .if_icmp .eq 38), (88, 1, .aload_n 0), (89, 3, .getfield 28), (92, 2, .iload 5), (94, 1, .iaload), (95, 1, .iload_n 3), (96, 3, .if_icmp .ne 27), (99, 1, .aload_n 0), (100, 3, .getfield 28), (103, 2, .iload 6), (105, 1, .iaload), (106, 1, .iconst (-1)), (107, 3, .if_icmp .ne 16), (110, 1, .aload_n 0), (111, 3, .getfield 28), (114, 2, .iload 6), (116, 1, .iload_n 3), (117, 1, .iconst 1), (118, 1, .iadd), (119, 1, .iastore), (120, 3, .goto 41), (123, 2, .iload 4), (125, 1, .iload_n 2), (126, 3, .if_icmp .eq 35), (129, 1, .aload_n 0), (130, 3, .getfield 28), (133, 2, .iload 6), (135, 1, .iaload), (136, 1, .iload_n 3), (137, 3, .if_icmp .ne 24), (140, 1, .aload_n 0), (141, 3, .getfield 28), (144, 2, .iload 5), (146, 1, .iaload), (147, 1, .iconst (-1)), (148, 3, .if_icmp .ne 13), (151, 1, .aload_n 0), (152, 3, .getfield 28), (155, 2, .iload 5), (157, 1, .iload_n 3), (158, 1, .iconst 1), (159, 1, .iadd), (160, 1, .iastore), (161, 3, .iinc 4 1), (164, 3, .goto (-112)), (167, 3, .iinc 3 1), (170, 3, .goto (-127)), (173, 1, .return_)]
def zc_188 : List (Nat × Nat × Instr) := [(0, 1, .aload_n 0), (1, 1, .aload_n 0), (2, 3, .getfield 7), (5, 2, .bipush 122), (7, 1, .iaload), (8, 1, .iconst (-1)), (9, 3, .invokevirtual 154), (12, 1, .aload_n 0), (13, 3, .getfield 28), (16, 1, .iload_n 1), (17, 1, .iaload), (18, 1, .ireturn)]
def zc_189 : List (Nat × Nat × Instr) := [(0, 1, .iconst 0), (1, 1, .istore_n 2), (2, 1, .iconst 0), (3, 1, .istore_n 3), (4, 1, .iload_n 3), (5, 1, .aload_n 0), (6, 3, .getfield 7), (9, 2, .bipush 121), (11, 1, .iaload), (12, 3, .if_icmp .ge 37), (15, 1, .iload_n 2), (16, 1, .aload_n 0), (17, 1, .iload_n 3), (18, 1, .iconst 0), (19, 3, .invokevirtual 85), (22, 1, .iload_n 1), (23, 3, .if_icmp .eq 13), (26, 1, .aload_n 0), (27, 1, .iload_n 3), (28, 1, .iconst 1), (29, 3, .invokevirtual 85), (32, 1, .iload_n 1), (33, 3, .if_icmp .ne 7), (36, 1, .iconst 1), (37, 3, .goto 4), (40, 1, .iconst 0), (41, 1, .iadd), (42, 1, .istore_n 2), (43, 3, .iinc 3 1), (46, 3, .goto (-42)), (49, 1, .iload_n 2), (50, 1, .ireturn)]
def zc_190 : List (Nat × Nat × Instr) := [(0, 1, .aload_n 0), (1, 1, .iload_n 1), (2, 3, .invokevirtual 158), (5, 1, .istore_n 2), (6, 1, .iload_n 2), (7, 1, .iconst (-1)), (8, 3, .if_icmp .ne 7), (11, 3, .sipush 500), (14, 1, .ireturn), (15, 1, .aload_n 0), (16, 3, .getfield 7), (19, 2, .bipush 123), (21, 1, .iaload), (22, 26, .lookupswitch 51 #[(0, 26), (1, 31)]), (48, 2, .bipush 10), (50, 1, .iload_n 2), (51, 1, .imul), (52, 1, .ireturn), (53, 1, .iload_n 2), (54, 1, .iload_n 2), (55, 1, .imul), (56, 1, .aload_n 0), (57, 1, .iload_n 1), (58, 1, .iconst 2), (59, 3, .invokevirtual 62), (62, 1, .aload_n 0), (63, 1, .iload_n 1), (64, 1, .iconst 3), (65, 3, .invokevirtual 62), (68, 1, .imul), (69, 1, .iconst 4), (70, 1, .idiv), (71, 1, .iadd), (72, 1, .ireturn), (73, 2, .bipush 100), (75, 2, .bipush 10), (77, 1, .aload_n 0), (78, 1, .iload_n 1), (79, 3, .invokevirtual 161), (82, 1, .imul), (83, 1, .isub), (84, 1, .iload_n 2), (85, 1, .iadd), (86, 1, .ireturn)]
def zc_191 : List (Nat × Nat × Instr) := [(0, 1, .iconst 0), (1, 2, .istore 4), (3, 1, .iconst 0), (4, 2, .istore 5), (6, 2, .iload 5), (8, 1, .aload_n 0), (9, 3, .getfield 7), (12, 2, .bipush 121), (14, 1, .iaload), (15, 3, .if_icmp .ge 123), (18, 1, .aload_n 0), (19, 2, .iload 5), (21, 1, .iconst 0), (22, 3, .invokevirtual 85), (25, 2, .istore 6), (27, 1, .aload_n 0), (28, 2, .iload 5), (30, 1, .iconst 1), (31, 3, .invokevirtual 85), (34, 2, .istore 7), (36, 1, .aload_n 0), (37, 2, .iload 5), (39, 1, .iconst 2), (40, 3, .invokevirtual 85), (43, 2, .istore 8), (45, 2, .iload 6), (47, 1, .iload_n 1), (48, 3, .if_icmp .ne 13), (51, 1, .aload_n 0), (52, 3, .getfield 34), (55, 2, .iload 7), (57, 1, .baload), (58, 3, .ifCond .ne 19), (61, 2, .iload 7), (63, 1, .iload_n 1), (64, 3, .if_icmp .ne 17), (67, 1, .aload_n 0), (68, 3, .getfield 34), (71, 2, .iload 6), (73, 1, .baload), (74, 3, .ifCond .eq 7), (77, 1, .iconst 1), (78, 3, .goto 4), (81, 1, .iconst 0), (82, 2, .istore 9), (84, 2, .iload 4), (86, 3, .ifCond .ne 39), (89, 2, .iload 9), (91, 3, .ifCond .eq 38), (94, 2, .iload 5), (96, 1, .iload_n 2), (97, 3, .if_icmp .eq 32), (100, 2, .iload 8), (102, 1, .iconst (-1)), (103, 3, .if_icmp .eq 22), (106, 2, .iload 8), (108, 1, .iload_n 3), (109, 3, .if_icmp .eq 16), (112, 1, .aload_n 0), (113, 3, .getfield 164), (116, 2, .iload 8), (118, 1, .ishr), (119, 1, .iconst 1), (120, 1, .iand), (121, 1, .iconst 1), (122, 3, .if_icmp .ne 7), (125, 1, .iconst 1), (126, 3, .goto 4), (129, 1, .iconst 0), (130, 2, .istore 4), (132, 3, .iinc 5 1), (135, 3, .goto (-129)), (138, 2, .iload 4), (140, 1, .ireturn)]
def zc_192 : List (Nat × Nat × Instr) := [(0, 1, .aload_n 0), (1, 3, .getfield 34), (4, 1, .iload_n 1), (5, 1, .iconst 1), (6, 1, .bastore), (7, 1, .aload_n 0), (8, 3, .getfield 31), (11, 1, .aload_n 0), (12, 3, .getfield 167), (15, 1, .iload_n 1), (16, 1, .iastore), (17, 1, .aload_n 0), (18, 1, .dup), (19, 3, .getfield 167), (22, 1, .iconst 1), (23, 1, .iadd), (24, 3, .putfield 167), (27, 1, .aload_n 0), (28, 1, .iload_n 1), (29, 1, .iconst 4), (30, 3, .invokevirtual 62), (33, 1, .istore_n 3), (34, 1, .aload_n 0), (35, 1, .dup), (36, 3, .getfield 164), (39, 1, .iload_n 3), (40, 1, .iconst (-1)), (41, 3, .if_icmp .eq 14), (44, 1, .iload_n 3), (45, 1, .iload_n 2), (46, 3, .if_icmp .eq 9), (49, 1, .iconst 1), (50, 1, .iload_n 3), (51, 1, .ishl), (52, 3, .goto 4), (55, 1, .iconst 0), (56, 1, .ior), (57, 3, .putfield 164), (60, 1, .return_)]
def zc_193 : List (Nat × Nat × Instr) := [(0, 1, .aload_n 0), (1, 1, .iconst 0), (2, 3, .putfield 167), (5, 1, .aload_n 0), (6, 1, .iconst 0), (7, 3, .putfield 164), (10, 1, .iconst 0), (11, 2, .istore 4), (13, 2, .iload 4), (15, 2, .bipush 12), (17, 3, .if_icmp .ge 17), (20, 1, .aload_n 0), (21, 3, .getfield 34), (24, 2, .iload 4), (26, 1, .iconst 0), (27, 1, .bastore), (28, 3, .iinc 4 1), (31, 3, .goto (-18)), (34, 1, .aload_n 0), (35, 3, .getfield 7), (38, 2, .bipush 120), (40, 1, .iaload), (41, 3, .ifCond .le 13), (44, 1, .aload_n 0), (45, 3, .getfield 7), (48, 2, .bipush 122), (50, 1, .iaload), (51, 3, .goto 4), (54, 1, .iconst (-1)), (55, 2, .istore 4), (57, 2, .iload 4), (59, 3, .ifCond .lt 83), (62, 1, .aload_n 0), (63, 2, .iload 4), (65, 1, .iload_n 2), (66, 3, .invokevirtual 170), (69, 1, .iconst (-1)), (70, 2, .istore 4), (72, 1, .iconst 0), (73, 2, .istore 5), (75, 2, .iload 5), (77, 1, .aload_n 0), (78, 3, .getfield 7), (81, 2, .bipush 120), (83, 1, .iaload), (84, 3, .if_icmp .ge 55), (87, 1, .aload_n 0), (88, 3, .getfield 34), (91, 2, .iload 5), (93, 1, .baload), (94, 3, .ifCond .ne 39), (97, 1, .aload_n 0), (98, 2, .iload 5), (100, 1, .iload_n 1), (101, 1, .iload_n 3), (102, 3, .invokevirtual 173), (105, 3, .ifCond .eq 28), (108, 2, .iload 4), (110, 1, .iconst (-1)), (111, 3, .if_icmp .eq 18), (114, 1, .aload_n 0), (115, 2, .iload 5), (117, 3, .invokevirtual 176), (120, 1, .aload_n 0), (121, 2, .iload 4), (123, 3, .invokevirtual 176), (126, 3, .if_icmp .ge 7), (129, 2, .iload 5), (131, 2, .istore 4), (133, 3, .iinc 5 1), (136, 3, .goto (-61)), (139, 3, .goto (-82)), (142, 1, .return_)]
def zc_194 : List (Nat × Nat × Instr) := [(0, 1, .aload_n 0), (1, 1, .iconst (-1)), (2, 1, .iconst (-1)), (3, 1, .iconst (-1)), (4, 3, .invokevirtual 179), (7, 1, .return_)]
def zc_195 : List (Nat × Nat × Instr) := [(0, 1, .iconst 0), (1, 1, .istore_n 2), (2, 1, .aload_n 0), (3, 1, .aload_n 0), (4, 3, .getfield 7), (7, 2, .bipush 122), (9, 1, .iaload), (10, 1, .iconst (-1)), (11, 3, .invokevirtual 154), (14, 1, .iconst 0), (15, 1, .istore_n 3), (16, 1, .iload_n 3), (17, 1, .aload_n 0), (18, 3, .getfield 7), (21, 2, .bipush 120), (23, 1, .iaload), (24, 3, .if_icmp .ge 26), (27, 1, .iload_n 2), (28, 1, .aload_n 0), (29, 3, .getfield 28), (32, 1, .iload_n 3), (33, 1, .iaload), (34, 3, .ifCond .lt 7), (37, 1, .iconst 1), (38, 3, .goto 4), (41, 1, .iconst 0), (42, 1, .iadd), (43, 1, .istore_n 2), (44, 3, .iinc 3 1), (47, 3, .goto (-31)), (50, 1, .aload_n 0), (51, 1, .aload_n 0), (52, 3, .getfield 7), (55, 2, .bipush 122), (57, 1, .iaload), (58, 1, .iload_n 1), (59, 3, .invokevirtual 154), (62, 1, .iconst 0), (63, 1, .istore_n 3), (64, 1, .iload_n 3), (65, 1, .aload_n 0), (66, 3, .getfield 7), (69, 2, .bipush 120), (71, 1, .iaload), (72, 3, .if_icmp .ge 26), (75, 1, .iload_n 2), (76, 1, .aload_n 0), (77, 3, .getfield 28), (80, 1, .iload_n 3), (81, 1, .iaload), (82, 3, .ifCond .lt 7), (85, 1, .iconst 1), (86, 3, .goto 4), (89, 1, .iconst 0), (90, 1, .isub), (91, 1, .istore_n 2), (92, 3, .iinc 3 1), (95, 3, .goto (-31)), (98, 1, .iload_n 2), (99, 1, .ireturn)]
def zc_196 : List (Nat × Nat × Instr) := [(0, 1, .iconst 0), (1, 1, .istore_n 1), (2, 1, .iconst 0), (3, 1, .istore_n 2), (4, 1, .iload_n 2), (5, 1, .aload_n 0), (6, 3, .getfield 7), (9, 2, .bipush 121), (11, 1, .iaload), (12, 3, .if_icmp .ge 33), (15, 1, .iload_n 1), (16, 1, .aload_n 0), (17, 1, .iload_n 2), (18, 1, .iconst 2), (19, 3, .invokevirtual 85), (22, 3, .ifCond .lt 14), (25, 1, .iconst 1), (26, 1, .aload_n 0), (27, 1, .iload_n 2), (28, 1, .iconst 2), (29, 3, .invokevirtual 85), (32, 1, .ishl), (33, 3, .goto 4), (36, 1, .iconst 0), (37, 1, .ior), (38, 1, .istore_n 1), (39, 3, .iinc 2 1), (42, 3, .goto (-38)), (45, 1, .iconst 0), (46, 1, .istore_n 2), (47, 1, .iload_n 2), (48, 1, .aload_n 0), (49, 3, .getfield 7), (52, 2, .bipush 120), (54, 1, .iaload), (55, 3, .if_icmp .ge 33), (58, 1, .iload_n 1), (59, 1, .aload_n 0), (60, 1, .iload_n 2), (61, 1, .iconst 4), (62, 3, .invokevirtual 62), (65, 3, .ifCond .lt 14), (68, 1, .iconst 1), (69, 1, .aload_n 0), (70, 1, .iload_n 2), (71, 1, .iconst 4), (72, 3, .invokevirtual 62), (75, 1, .ishl), (76, 3, .goto 4), (79, 1, .iconst 0), (80, 1, .ior), (81, 1, .istore_n 1), (82, 3, .iinc 2 1), (85, 3, .goto (-38)), (88, 1, .iload_n 1), (89, 1, .ireturn)]
def zc_197 : List (Nat × Nat × Instr) := [(0, 1, .iconst (-1)), (1, 1, .istore_n 1), (2, 1, .iconst 0), (3, 1, .istore_n 2), (4, 1, .iload_n 2), (5, 1, .aload_n 0), (6, 3, .getfield 7), (9, 2, .bipush 121), (11, 1, .iaload), (12, 3, .if_icmp .ge 71), (15, 1, .aload_n 0), (16, 1, .iload_n 2), (17, 1, .iconst 2), (18, 3, .invokevirtual 85), (21, 1, .iconst (-1)), (22, 3, .if_icmp .ne 55), (25, 1, .aload_n 0), (26, 1, .iload_n 2), (27, 3, .invokevirtual 182), (30, 3, .ifCond .le 47), (33, 1, .iload_n 1), (34, 1, .iconst (-1)), (35, 3, .if_icmp .eq 40), (38, 1, .iconst 2), (39, 1, .aload_n 0), (40, 1, .iload_n 2), (41, 3, .invokevirtual 182), (44, 1, .imul), (45, 1, .aload_n 0), (46, 3, .getfield 7), (49, 2, .bipush 120), (51, 1, .iaload), (52, 3, .invokestatic 70), (55, 1, .iconst 2), (56, 1, .aload_n 0), (57, 1, .iload_n 1), (58, 3, .invokevirtual 182), (61, 1, .imul), (62, 1, .aload_n 0), (63, 3, .getfield 7), (66, 2, .bipush 120), (68, 1, .iaload), (69, 3, .invokestatic 70), (72, 3, .if_icmp .ge 5), (75, 1, .iload_n 2), (76, 1, .istore_n 1), (77, 3, .iinc 2 1), (80, 3, .goto (-76)), (83, 1, .iload_n 1), (84, 1, .iconst (-1)), (85, 3, .if_icmp .ne 6), (88, 2, .bipush (-104)), (90, 1, .ireturn), (91, 1, .iconst 0), (92, 1, .istore_n 2), (93, 1, .iload_n 2), (94, 2, .bipush 6), (96, 3, .if_icmp .ge 21), (99, 1, .aload_n 0), (100, 3, .invokevirtual 185), (103, 1, .iload_n 2), (104, 1, .ishr), (105, 1, .iconst 1), (106, 1, .iand), (107, 1, .iconst 1), (108, 3, .if_icmp .ne 9), (111, 3, .iinc 2 1), (114, 3, .goto (-21)), (117, 1, .iload_n 2), (118, 2, .bipush 6), (120, 3, .if_icmp .ne 6), (123, 2, .bipush (-103)), (125, 1, .ireturn), (126, 1, .aload_n 0), (127, 1, .iload_n 1), (128, 1, .iconst (-1)), (129, 1, .iconst (-1)), (130, 3, .invokevirtual 179), (133, 1, .iconst (-1)), (134, 1, .istore_n 3), (135, 1, .iconst 0), (136, 2, .istore 4), (138, 2, .iload 4), (140, 1, .aload_n 0), (141, 3, .getfield 7), (144, 2, .bipush 120), (146, 1, .iaload), (147, 3, .if_icmp .ge 52), (150, 1, .aload_n 0), (151, 3, .getfield 34), (154, 2, .iload 4), (156, 1, .baload), (157, 3, .ifCond .eq 36), (160, 1, .aload_n 0), (161, 2, .iload 4), (163, 1, .iconst 4), (164, 3, .invokevirtual 62), (167, 1, .iconst (-1)), (168, 3, .if_icmp .ne 25), (171, 1, .iload_n 3), (172, 1, .iconst (-1)), (173, 3, .if_icmp .eq 17), (176, 1, .aload_n 0), (177, 2, .iload 4), (179, 3, .invokevirtual 158), (182, 1, .aload_n 0), (183, 1, .iload_n 3), (184, 3, .invokevirtual 158), (187, 3, .if_icmp .le 6), (190, 2, .iload 4), (192, 1, .istore_n 3), (193, 3, .iinc 4 1), (196, 3, .goto (-58)), (199, 1, .iload_n 3), (200, 1, .iconst (-1)), (201, 3, .if_icmp .ne 6), (204, 2, .bipush (-105)), (206, 1, .ireturn), (207, 1, .aload_n 0), (208, 3, .invokevirtual 101), (211, 1, .aload_n 0), (212, 1, .iload_n 1), (213, 1, .iload_n 2), (214, 3, .invokevirtual 114), (217, 2, .istore 4), (219, 1, .aload_n 0), (220, 1, .iload_n 3), (221, 1, .iload_n 2), (222, 3, .invokevirtual 117), (225, 2, .istore 4), (227, 1, .aload_n 0), (228, 3, .invokevirtual 79), (231, 1, .iload_n 1), (232, 1, .ireturn)]
def zc_198 : List (Nat × Nat × Instr) := [(0, 1, .iload_n 1), (1, 1, .iconst 0), (2, 1, .iconst 2), (3, 3, .invokestatic 58), (6, 3, .ifCond .ne 6), (9, 2, .bipush (-102)), (11, 1, .ireturn), (12, 1, .aload_n 0), (13, 3, .invokevirtual 101), (16, 1, .aload_n 0), (17, 3, .invokevirtual 79), (20, 1, .aload_n 0), (21, 3, .getfield 7), (24, 2, .bipush 123), (26, 1, .iaload), (27, 1, .istore_n 2), (28, 1, .aload_n 0), (29, 3, .getfield 7), (32, 2, .bipush 123), (34, 1, .iload_n 1), (35, 1, .iastore), (36, 1, .iload_n 2), (37, 1, .ireturn)]
def zc_199 : List (Nat × Nat × Instr) := [(0, 1, .iconst 0), (1, 1, .istore_n 2), (2, 2, .bipush 24), (4, 1, .istore_n 3), (5, 1, .iload_n 3), (6, 3, .ifCond .lt 51), (9, 1, .iload_n 1), (10, 1, .iload_n 3), (11, 1, .iushr), (12, 3, .sipush 255), (15, 1, .iand), (16, 2, .istore 4), (18, 2, .iload 4), (20, 3, .ifCond .eq 18), (23, 2, .iload 4), (25, 2, .bipush 33), (27, 2, .bipush 126), (29, 3, .invokestatic 58), (32, 3, .ifCond .ne 6), (35, 2, .bipush (-102)), (37, 1, .ireturn), (38, 1, .iload_n 2), (39, 2, .iload 4), (41, 3, .ifCond .eq 7), (44, 1, .iconst 1), (45, 3, .goto 4), (48, 1, .iconst 0), (49, 1, .iadd), (50, 1, .istore_n 2), (51, 3, .iinc 3 (-8)), (54, 3, .goto (-49)), (57, 1, .aload_n 0), (58, 3, .getfield 189), (61, 1, .iload_n 2), (62, 1, .iadd), (63, 2, .bipush 60), (65, 3, .if_icmp .le 6), (68, 2, .bipush (-103)), (70, 1, .ireturn), (71, 2, .bipush 24), (73, 1, .istore_n 3), (74, 1, .iload_n 3), (75, 3, .ifCond .lt 45), (78, 1, .iload_n 1), (79, 1, .iload_n 3), (80, 1, .iushr), (81, 3, .sipush 255), (84, 1, .iand), (85, 2, .istore 4), (87, 2, .iload 4), (89, 3, .ifCond .eq 25), (92, 1, .aload_n 0), (93, 3, .getfield 38), (96, 1, .aload_n 0), (97, 3, .getfield 189), (100, 2, .iload 4), (102, 1, .i2c), (103, 1, .castore), (104, 1, .aload_n 0), (105, 1, .dup), (106, 3, .getfield 189), (109, 1, .iconst 1), (110, 1, .iadd), (111, 3, .putfield 189), (114, 3, .iinc 3 (-8)), (117, 3, .goto (-43)), (120, 1, .aload_n 0), (121, 3, .getfield 189), (124, 1, .ireturn)]
def zc_200 : List (Nat × Nat × Instr) := [(0, 1, .aload_n 0), (1, 3, .getfield 192), (4, 1, .aload_n 0), (5, 3, .getfield 189), (8, 3, .if_icmp .ge 16), (11, 1, .aload_n 0), (12, 3, .getfield 38), (15, 1, .aload_n 0), (16, 3, .getfield 192), (19, 1, .caload), (20, 1, .iload_n 1), (21, 3, .if_icmp .eq 5), (24, 1, .iconst 0), (25, 1, .ireturn), (26, 1, .aload_n 0), (27, 1, .dup), (28, 3, .getfield 192), (31, 1, .iconst 1), (32, 1, .iadd), (33, 3, .putfield 192), (36, 1, .iconst 1), (37, 1, .ireturn)]
def zc_201 : List (Nat × Nat × Instr) := [(0, 1, .iload_n 0), (1, 2, .bipush 114), (3, 3, .if_icmp .ne 7), (6, 1, .iconst 4), (7, 3, .goto 36), (10, 1, .iload_n 0), (11, 2, .bipush 99), (13, 3, .if_icmp .eq 15), (16, 1, .iload_n 0), (17, 2, .bipush 108), (19, 3, .if_icmp .eq 9), (22, 1, .iload_n 0), (23, 2, .bipush 107), (25, 3, .if_icmp .ne 7), (28, 1, .iconst 2), (29, 3, .goto 14), (32, 1, .iload_n 0), (33, 2, .bipush 101), (35, 3, .if_icmp .ne 7), (38, 1, .iconst 1), (39, 3, .goto 4), (42, 1, .iconst 0), (43, 1, .ireturn)]
def zc_202 : List (Nat × Nat × Instr) := [(0, 1, .aload_n 0), (1, 3, .getfield 192), (4, 1, .istore_n 2), (5, 1, .aload_n 0), (6, 3, .getfield 46), (9, 1, .iload_n 1), (10, 1, .iconst 0), (11, 1, .iastore), (12, 1, .aload_n 0), (13, 3, .getfield 192), (16, 1, .aload_n 0), (17, 3, .getfield 189), (20, 3, .if_icmp .ge 73), (23, 1, .aload_n 0), (24, 3, .getfield 192), (27, 1, .iload_n 2), (28, 1, .isub), (29, 1, .iconst 2), (30, 3, .if_icmp .ge 63), (33, 1, .aload_n 0), (34, 3, .getfield 38), (37, 1, .aload_n 0), (38, 3, .getfield 192), (41, 1, .caload), (42, 2, .bipush 48), (44, 2, .bipush 57), (46, 3, .invokestatic 58), (49, 3, .ifCond .eq 44), (52, 1, .aload_n 0), (53, 3, .getfield 46), (56, 1, .iload_n 1), (57, 2, .bipush 10), (59, 1, .aload_n 0), (60, 3, .getfield 46), (63, 1, .iload_n 1), (64, 1, .iaload), (65, 1, .imul), (66, 1, .aload_n 0), (67, 3, .getfield 38), (70, 1, .aload_n 0), (71, 3, .getfield 192), (74, 1, .caload), (75, 1, .iadd), (76, 2, .bipush 48), (78, 1, .isub), (79, 1, .iastore), (80, 1, .aload_n 0), (81, 1, .dup), (82, 3, .getfield 192), (85, 1, .iconst 1), (86, 1, .iadd), (87, 3, .putfield 192), (90, 3, .goto (-78)), (93, 1, .aload_n 0), (94, 3, .getfield 192), (97, 1, .iload_n 2), (98, 3, .if_icmp .le 7), (101, 1, .iconst 1), (102, 3, .goto 4), (105, 1, .iconst 0), (106, 1, .ireturn)]
def zc_203 : List (Nat × Nat × Instr) := [(0, 1, .aload_n 0), (1, 1, .aload_n 0), (2, 3, .getfield 192), (5, 1, .aload_n 0), (6, 3, .getfield 189), (9, 3, .if_icmp .ge 15), (12, 1, .aload_n 0), (13, 3, .getfield 38), (16, 1, .aload_n 0), (17, 3, .getfield 192), (20, 1, .caload), (21, 3, .goto 4), (24, 1, .iconst 0), (25, 3, .putfield 195), (28, 1, .aload_n 0), (29, 3, .getfield 195), (32, 3, .invokestatic 198), (35, 1, .istore_n 1), (36, 1, .iload_n 1), (37, 3, .ifCond .ne 5), (40, 1, .iconst 0), (41, 1, .ireturn), (42, 1, .aload_n 0), (43, 1, .dup), (44, 3, .getfield 192), (47, 1, .iconst 1), (48, 1, .iadd), (49, 3, .putfield 192), (52, 1, .iconst 0), (53, 1, .istore_n 2), (54, 1, .iload_n 2), (55, 1, .iload_n 1), (56, 3, .if_icmp .ge 32), (59, 1, .iload_n 2), (60, 3, .ifCond .le 12), (63, 1, .aload_n 0), (64, 2, .bipush 44), (66, 3, .invokevirtual 201), (69, 3, .ifCond .eq 11), (72, 1, .aload_n 0), (73, 1, .iload_n 2), (74, 3, .invokevirtual 204), (77, 3, .ifCond .ne 5), (80, 1, .iconst 0), (81, 1, .ireturn), (82, 3, .iinc 2 1), (85, 3, .goto (-31)), (88, 1, .iconst 1), (89, 1, .ireturn)]
def zc_204 : List (Nat × Nat × Instr) := [(0, 1, .aload_n 0), (1, 3, .getfield 195), (4, 44, .lookupswitch 124 #[(99, 73), (107, 107), (108, 90), (114, 44)]), (48, 1, .aload_n 0), (49, 1, .aload_n 0), (50, 3, .getfield 46), (53, 1, .iconst 0), (54, 1, .iaload), (55, 1, .aload_n 0), (56, 3, .getfield 46), (59, 1, .iconst 1), (60, 1, .iaload), (61, 1, .aload_n 0), (62, 3, .getfield 46), (65, 1, .iconst 2), (66, 1, .iaload), (67, 1, .aload_n 0), (68, 3, .getfield 46), (71, 1, .iconst 3), (72, 1, .iaload), (73, 3, .invokevirtual 104), (76, 1, .ireturn), (77, 1, .aload_n 0), (78, 1, .aload_n 0), (79, 3, .getfield 46), (82, 1, .iconst 0), (83, 1, .iaload), (84, 1, .aload_n 0), (85, 3, .getfield 46), (88, 1, .iconst 1), (89, 1, .iaload), (90, 3, .invokevirtual 111), (93, 1, .ireturn), (94, 1, .aload_n 0), (95, 1, .aload_n 0), (96, 3, .getfield 46), (99, 1, .iconst 0), (100, 1, .iaload), (101, 1, .aload_n 0), (102, 3, .getfield 46), (105, 1, .iconst 1), (106, 1, .iaload), (107, 3, .invokevirtual 114), (110, 1, .ireturn), (111, 1, .aload_n 0), (112, 1, .aload_n 0), (113, 3, .getfield 46), (116, 1, .iconst 0), (117, 1, .iaload), (118, 1, .aload_n 0), (119, 3, .getfield 46), (122, 1, .iconst 1), (123, 1, .iaload), (124, 3, .invokevirtual 117), (127, 1, .ireturn), (128, 1, .aload_n 0), (129, 1, .aload_n 0), (130, 3, .getfield 46), (133, 1, .iconst 0), (134, 1, .iaload), (135, 3, .invokevirtual 120), (138, 1, .ireturn)]
def zc_205 : List (Nat × Nat × Instr) := [(0, 1, .aload_n 0), (1, 1, .iconst 0), (2, 3, .putfield 192), (5, 1, .aload_n 0), (6, 3, .invokevirtual 207), (9, 1, .istore_n 1), (10, 1, .iload_n 1), (11, 3, .ifCond .eq 20), (14, 1, .aload_n 0), (15, 2, .bipush 59), (17, 3, .invokevirtual 201), (20, 3, .ifCond .eq 11), (23, 1, .aload_n 0), (24, 3, .invokevirtual 207), (27, 1, .istore_n 1), (28, 3, .goto (-18)), (31, 1, .iload_n 1), (32, 3, .ifCond .eq 14), (35, 1, .aload_n 0), (36, 3, .getfield 192), (39, 1, .aload_n 0), (40, 3, .getfield 189), (43, 3, .if_icmp .ge 19), (46, 1, .aload_n 0), (47, 1, .aload_n 0), (48, 3, .getfield 192), (51, 3, .putfield 42), (54, 1, .aload_n 0), (55, 1, .iconst 0), (56, 3, .putfield 189), (59, 2, .bipush (-102)), (61, 1, .ireturn), (62, 1, .aload_n 0), (63, 3, .invokevirtual 101), (66, 1, .aload_n 0), (67, 1, .iconst 0), (68, 3, .putfield 192), (71, 1, .iconst 0), (72, 1, .istore_n 2), (73, 1, .iconst 0), (74, 1, .istore_n 3), (75, 1, .aload_n 0), (76, 3, .getfield 192), (79, 1, .aload_n 0), (80, 3, .getfield 189), (83, 3, .if_icmp .ge 87), (86, 1, .aload_n 0), (87, 3, .getfield 192), (90, 1, .istore_n 3), (91, 1, .aload_n 0), (92, 3, .invokevirtual 207), (95, 1, .istore_n 1), (96, 1, .aload_n 0), (97, 3, .invokevirtual 211), (100, 2, .istore 4), (102, 2, .iload 4), (104, 3, .ifCond .ge 53), (107, 2, .iload 4), (109, 2, .bipush (-104)), (111, 3, .if_icmp .eq 46), (114, 1, .iconst 0), (115, 2, .istore 5), (117, 2, .iload 5), (119, 2, .bipush 124), (121, 3, .if_icmp .ge 23), (124, 1, .aload_n 0), (125, 3, .getfield 7), (128, 2, .iload 5), (130, 1, .aload_n 0), (131, 3, .getfield 19), (134, 2, .iload 5), (136, 1, .iaload), (137, 1, .iastore), (138, 3, .iinc 5 1), (141, 3, .goto (-24)), (144, 1, .aload_n 0), (145, 1, .iload_n 3), (146, 3, .putfield 42), (149, 1, .aload_n 0), (150, 1, .iconst 0), (151, 3, .putfield 189), (154, 2, .bipush (-105)), (156, 1, .ireturn), (157, 3, .iinc 2 1), (160, 1, .aload_n 0), (161, 2, .bipush 59), (163, 3, .invokevirtual 201), (166, 1, .istore_n 1), (167, 3, .goto (-92)), (170, 1, .aload_n 0), (171, 2, .bipush (-104)), (173, 3, .putfield 42), (176, 1, .aload_n 0), (177, 1, .iconst 0), (178, 3, .putfield 189), (181, 1, .aload_n 0), (182, 3, .invokevirtual 79), (185, 1, .iload_n 2), (186, 1, .ireturn)]
def zc_206 : List (Nat × Nat × Instr) := [(0, 1, .aload_n 0), (1, 3, .getfield 42), (4, 1, .ireturn)]
def zc_207 : List (Nat × Nat × Instr) := [(0, 1, .aload_n 0), (1, 3, .getfield 76), (4, 3, .ifCond .ne 6), (7, 2, .bipush (-104)), (9, 1, .ireturn), (10, 1, .aload_n 0), (11, 1, .dup), (12, 3, .getfield 76), (15, 1, .iconst 1), (16, 1, .isub), (17, 3, .putfield 76), (20, 1, .iconst 0), (21, 1, .istore_n 1), (22, 1, .iload_n 1), (23, 2, .bipush 124), (25, 3, .if_icmp .ge 29), (28, 1, .aload_n 0), (29, 3, .getfield 7), (32, 1, .iload_n 1), (33, 1, .aload_n 0), (34, 3, .getfield 13), (37, 2, .bipush 124), (39, 1, .aload_n 0), (40, 3, .getfield 76), (43, 1, .imul), (44, 1, .iload_n 1), (45, 1, .iadd), (46, 1, .iaload), (47, 1, .iastore), (48, 3, .iinc 1 1), (51, 3, .goto (-29)), (54, 1, .aload_n 0), (55, 3, .getfield 76), (58, 1, .ireturn)]
def zc_208 : List (Nat × Nat × Instr) := [(0, 1, .iload_n 0), (1, 1, .iconst 0), (2, 2, .bipush 23), (4, 3, .invokestatic 58), (7, 3, .ifCond .eq 17), (10, 1, .iload_n 1), (11, 1, .iconst 0), (12, 2, .bipush 15), (14, 3, .invokestatic 58), (17, 3, .ifCond .eq 7), (20, 1, .iconst 1), (21, 3, .goto 4), (24, 1, .iconst 0), (25, 1, .ireturn)]
def zc_209 : List (Nat × Nat × Instr) := [(0, 1, .iload_n 1), (1, 1, .iload_n 2), (2, 3, .if_icmp .ge 12), (5, 1, .iload_n 0), (6, 1, .iload_n 1), (7, 1, .iload_n 2), (8, 3, .invokestatic 58), (11, 3, .goto 9), (14, 1, .iload_n 0), (15, 1, .iload_n 2), (16, 1, .iload_n 1), (17, 3, .invokestatic 58), (20, 1, .ireturn)]
def zc_210 : List (Nat × Nat × Instr) := [(0, 1, .aload_n 0), (1, 1, .iload_n 1), (2, 1, .iconst 0), (3, 3, .invokevirtual 85), (6, 2, .istore 4), (8, 1, .aload_n 0), (9, 1, .iload_n 1), (10, 1, .iconst 1), (11, 3, .invokevirtual 85), (14, 2, .istore 5), (16, 1, .iload_n 2), (17, 1, .aload_n 0), (18, 2, .iload 4), (20, 3, .invokevirtual 66), (23, 1, .aload_n 0), (24, 2, .iload 5), (26, 3, .invokevirtual 66), (29, 3, .invokestatic 214), (32, 3, .ifCond .eq 32), (35, 1, .iload_n 3), (36, 1, .iload_n 1), (37, 1, .iconst 2), (38, 1, .irem), (39, 3, .ifCond .ne 12), (42, 1, .aload_n 0), (43, 2, .iload 4), (45, 3, .invokevirtual 73), (48, 3, .goto 9), (51, 1, .aload_n 0), (52, 2, .iload 5), (54, 3, .invokevirtual 73), (57, 3, .if_icmp .ne 7), (60, 1, .iconst 1), (61, 3, .goto 4), (64, 1, .iconst 0), (65, 2, .istore 6), (67, 1, .iload_n 3), (68, 1, .aload_n 0), (69, 2, .iload 4), (71, 3, .invokevirtual 73), (74, 1, .aload_n 0), (75, 2, .iload 5), (77, 3, .invokevirtual 73), (80, 3, .invokestatic 214), (83, 3, .ifCond .eq 32), (86, 1, .iload_n 2), (87, 1, .iload_n 1), (88, 1, .iconst 2), (89, 1, .irem), (90, 3, .ifCond .ne 12), (93, 1, .aload_n 0), (94, 2, .iload 5), (96, 3, .invokevirtual 66), (99, 3, .goto 9), (102, 1, .aload_n 0), (103, 2, .iload 4), (105, 3, .invokevirtual 66), (108, 3, .if_icmp .ne 7), (111, 1, .iconst 1), (112, 3, .goto 4), (115, 1, .iconst 0), (116, 2, .istore 7), (118, 2, .iload 6), (120, 3, .ifCond .ne 8), (123, 2, .iload 7), (125, 3, .ifCond .eq 17), (128, 1, .aload_n 0), (129, 1, .iload_n 2), (130, 1, .iload_n 3), (131, 3, .invokevirtual 82), (134, 1, .iconst (-1)), (135, 3, .if_icmp .ne 7), (138, 1, .iconst 1), (139, 3, .goto 4), (142, 1, .iconst 0), (143, 1, .ireturn)]
def zc_211 : List (Nat × Nat × Instr) := [(0, 1, .iconst 0), (1, 2, .istore 4), (3, 2, .iload 4), (5, 1, .aload_n 0), (6, 3, .getfield 7), (9, 2, .bipush 121), (11, 1, .iaload), (12, 3, .if_icmp .ge 37), (15, 1, .aload_n 0), (16, 2, .iload 4), (18, 1, .iload_n 1), (19, 1, .iload_n 2), (20, 3, .invokevirtual 217), (23, 3, .ifCond .eq 20), (26, 1, .iload_n 3), (27, 3, .ifCond .eq 13), (30, 1, .aload_n 0), (31, 2, .iload 4), (33, 1, .iconst 2), (34, 3, .invokevirtual 85), (37, 3, .ifCond .lt 6), (40, 2, .iload 4), (42, 1, .ireturn), (43, 3, .iinc 4 1), (46, 3, .goto (-43)), (49, 1, .iconst (-1)), (50, 1, .ireturn)]
def zc_212 : List (Nat × Nat × Instr) := [(0, 1, .iconst 0), (1, 1, .istore_n 2), (2, 1, .iconst 0), (3, 1, .istore_n 3), (4, 1, .iload_n 3), (5, 3, .sipush 384), (8, 3, .if_icmp .ge 33), (11, 1, .iload_n 2), (12, 1, .aload_n 0), (13, 1, .iload_n 1), (14, 1, .iload_n 3), (15, 2, .bipush 24), (17, 1, .irem), (18, 1, .iload_n 3), (19, 2, .bipush 24), (21, 1, .idiv), (22, 3, .invokevirtual 217), (25, 3, .ifCond .eq 7), (28, 1, .iconst 1), (29, 3, .goto 4), (32, 1, .iconst 0), (33, 1, .iadd), (34, 1, .istore_n 2), (35, 3, .iinc 3 1), (38, 3, .goto (-34)), (41, 1, .iload_n 2), (42, 1, .ireturn)]
def zc_213 : List (Nat × Nat × Instr) := [(0, 1, .iload_n 1), (1, 1, .iload_n 2), (2, 3, .invokestatic 220), (5, 3, .ifCond .ne 6), (8, 2, .bipush (-101)), (10, 1, .ireturn), (11, 1, .aload_n 0), (12, 1, .iload_n 1), (13, 1, .iload_n 2), (14, 3, .invokevirtual 82), (17, 1, .istore_n 3), (18, 1, .aload_n 0), (19, 1, .iload_n 1), (20, 1, .iload_n 2), (21, 1, .iconst 0), (22, 3, .invokevirtual 224), (25, 2, .istore 4), (27, 1, .iload_n 3), (28, 3, .ifCond .lt 7), (31, 1, .iload_n 3), (32, 3, .goto 18), (35, 2, .iload 4), (37, 3, .ifCond .lt 11), (40, 2, .bipush 20), (42, 2, .iload 4), (44, 1, .iadd), (45, 3, .goto 5), (48, 2, .bipush (-104)), (50, 1, .ireturn)]
def zc_214 : List (Nat × Nat × Instr) := [(0, 1, .iload_n 1), (1, 1, .iload_n 2), (2, 3, .invokestatic 220), (5, 3, .ifCond .ne 6), (8, 2, .bipush (-101)), (10, 1, .ireturn), (11, 1, .aload_n 0), (12, 1, .iload_n 1), (13, 1, .iload_n 2), (14, 3, .invokevirtual 82), (17, 1, .istore_n 3), (18, 1, .iload_n 3), (19, 3, .ifCond .lt 78), (22, 1, .iload_n 1), (23, 1, .aload_n 0), (24, 1, .iload_n 3), (25, 3, .invokevirtual 66), (28, 3, .if_icmp .ne 16), (31, 1, .iload_n 2), (32, 1, .aload_n 0), (33, 1, .iload_n 3), (34, 3, .invokevirtual 73), (37, 3, .if_icmp .ne 7), (40, 1, .iconst 1), (41, 3, .goto 4), (44, 1, .iconst 0), (45, 2, .istore 4), (47, 2, .iload 4), (49, 3, .ifCond .ne 8), (52, 2, .bipush 46), (54, 3, .goto 42), (57, 1, .iload_n 3), (58, 1, .aload_n 0), (59, 3, .getfield 7), (62, 2, .bipush 122), (64, 1, .iaload), (65, 3, .if_icmp .ne 8), (68, 2, .bipush 62), (70, 3, .goto 26), (73, 1, .aload_n 0), (74, 1, .iload_n 3), (75, 1, .iconst 4), (76, 3, .invokevirtual 62), (79, 3, .ifCond .lt 15), (82, 2, .bipush 48), (84, 1, .aload_n 0), (85, 1, .iload_n 3), (86, 1, .iconst 4), (87, 3, .invokevirtual 62), (90, 1, .iadd), (91, 3, .goto 5), (94, 2, .bipush 111), (96, 1, .ireturn), (97, 1, .aload_n 0), (98, 1, .iload_n 1), (99, 1, .iload_n 2), (100, 1, .iconst 1), (101, 3, .invokevirtual 224), (104, 2, .istore 4), (106, 2, .iload 4), (108, 3, .ifCond .lt 16), (111, 2, .bipush 97), (113, 1, .aload_n 0), (114, 2, .iload 4), (116, 1, .iconst 2), (117, 3, .invokevirtual 85), (120, 1, .iadd), (121, 3, .goto 20), (124, 1, .aload_n 0), (125, 1, .iload_n 1), (126, 1, .iload_n 2), (127, 1, .iconst 0), (128, 3, .invokevirtual 224), (131, 3, .ifCond .lt 8), (134, 2, .bipush 43), (136, 3, .goto 5), (139, 2, .bipush 35), (141, 1, .ireturn)]
def zc_215 : List (Nat × Nat × Instr) := [(0, 1, .aload_n 0), (1, 1, .iload_n 1), (2, 2, .bipush 24), (4, 1, .irem), (5, 1, .iload_n 1), (6, 2, .bipush 24), (8, 1, .idiv), (9, 3, .invokevirtual 82), (12, 3, .ifCond .ge 19), (15, 1, .aload_n 0), (16, 1, .iload_n 1), (17, 2, .bipush 24), (19, 1, .irem), (20, 1, .iload_n 1), (21, 2, .bipush 24), (23, 1, .idiv), (24, 1, .iconst 0), (25, 3, .invokevirtual 224), (28, 3, .ifCond .lt 7), (31, 1, .iconst 1), (32, 3, .goto 4), (35, 1, .iconst 0), (36, 1, .ireturn)]
def zc_216 : List (Nat × Nat × Instr) := [(0, 1, .iconst (-1)), (1, 1, .istore_n 2), (2, 1, .iload_n 1), (3, 2, .bipush 24), (5, 1, .irem), (6, 1, .istore_n 3), (7, 1, .iconst 0), (8, 2, .istore 4), (10, 2, .iload 4), (12, 1, .iconst 4), (13, 3, .if_icmp .ge 159), (16, 2, .iload 4), (18, 3, .ifCond .ne 15), (21, 1, .iload_n 3), (22, 3, .ifCond .le 7), (25, 1, .iconst 1), (26, 3, .goto 59), (29, 1, .iconst 0), (30, 3, .goto 55), (33, 2, .iload 4), (35, 1, .iconst 1), (36, 3, .if_icmp .ne 17), (39, 1, .iload_n 3), (40, 2, .bipush 23), (42, 3, .if_icmp .ge 7), (45, 1, .iconst 1), (46, 3, .goto 39), (49, 1, .iconst 0), (50, 3, .goto 35), (53, 2, .iload 4), (55, 1, .iconst 2), (56, 3, .if_icmp .ne 17), (59, 1, .iload_n 1), (60, 2, .bipush 24), (62, 3, .if_icmp .lt 7), (65, 1, .iconst 1), (66, 3, .goto 19), (69, 1, .iconst 0), (70, 3, .goto 15), (73, 1, .iload_n 1), (74, 3, .sipush 360), (77, 3, .if_icmp .ge 7), (80, 1, .iconst 1), (81, 3, .goto 4), (84, 1, .iconst 0), (85, 2, .istore 5), (87, 1, .iload_n 1), (88, 2, .iload 4), (90, 3, .ifCond .ne 7), (93, 1, .iconst (-1)), (94, 3, .goto 26), (97, 2, .iload 4), (99, 1, .iconst 1), (100, 3, .if_icmp .ne 7), (103, 1, .iconst 1), (104, 3, .goto 16), (107, 2, .iload 4), (109, 1, .iconst 2), (110, 3, .if_icmp .ne 8), (113, 2, .bipush (-24)), (115, 3, .goto 5), (118, 2, .bipush 24), (120, 1, .iadd), (121, 2, .istore 6), (123, 2, .iload 5), (125, 3, .ifCond .eq 39), (128, 1, .aload_n 0), (129, 3, .getfield 49), (132, 2, .iload 6), (134, 1, .iaload), (135, 3, .ifCond .lt 29), (138, 1, .iload_n 2), (139, 1, .iconst (-1)), (140, 3, .if_icmp .eq 14), (143, 1, .aload_n 0), (144, 3, .getfield 49), (147, 2, .iload 6), (149, 1, .iaload), (150, 1, .iload_n 2), (151, 3, .if_icmp .ge 13), (154, 1, .aload_n 0), (155, 3, .getfield 49), (158, 2, .iload 6), (160, 1, .iaload), (161, 3, .goto 4), (164, 1, .iload_n 2), (165, 1, .istore_n 2), (166, 3, .iinc 4 1), (169, 3, .goto (-159)), (172, 1, .iload_n 2), (173, 1, .ireturn)]
def zc_217 : List (Nat × Nat × Instr) := [(0, 1, .iload_n 1), (1, 1, .iload_n 2), (2, 3, .invokestatic 220), (5, 3, .ifCond .eq 12), (8, 1, .iload_n 3), (9, 2, .iload 4), (11, 3, .invokestatic 220), (14, 3, .ifCond .ne 6), (17, 2, .bipush (-101)), (19, 1, .ireturn), (20, 1, .aload_n 0), (21, 2, .bipush 24), (23, 1, .iload_n 2), (24, 1, .imul), (25, 1, .iload_n 1), (26, 1, .iadd), (27, 3, .invokevirtual 228), (30, 3, .ifCond .eq 17), (33, 1, .aload_n 0), (34, 2, .bipush 24), (36, 2, .iload 4), (38, 1, .imul), (39, 1, .iload_n 3), (40, 1, .iadd), (41, 3, .invokevirtual 228), (44, 3, .ifCond .ne 6), (47, 2, .bipush (-102)), (49, 1, .ireturn), (50, 1, .iconst 0), (51, 2, .istore 5), (53, 2, .iload 5), (55, 3, .sipush 384), (58, 3, .if_icmp .ge 45), (61, 1, .aload_n 0), (62, 3, .getfield 49), (65, 2, .iload 5), (67, 2, .iload 5), (69, 2, .bipush 24), (71, 1, .iload_n 2), (72, 1, .imul), (73, 1, .iload_n 1), (74, 1, .iadd), (75, 3, .if_icmp .ne 7), (78, 1, .iconst 0), (79, 3, .goto 4), (82, 1, .iconst (-1)), (83, 1, .iastore), (84, 1, .aload_n 0), (85, 3, .getfield 52), (88, 2, .iload 5), (90, 1, .aload_n 0), (91, 2, .iload 5), (93, 3, .invokevirtual 228), (96, 1, .bastore), (97, 3, .iinc 5 1), (100, 3, .goto (-47)), (103, 1, .iconst 1), (104, 2, .istore 5), (106, 1, .iconst 1), (107, 2, .istore 6), (109, 2, .iload 5), (111, 3, .ifCond .eq 75), (114, 1, .iconst 0), (115, 2, .istore 5), (117, 1, .iconst 0), (118, 2, .istore 7), (120, 2, .iload 7), (122, 3, .sipush 384), (125, 3, .if_icmp .ge 55), (128, 1, .aload_n 0), (129, 3, .getfield 52), (132, 2, .iload 7), (134, 1, .baload), (135, 3, .ifCond .eq 39), (138, 1, .aload_n 0), (139, 3, .getfield 49), (142, 2, .iload 7), (144, 1, .iaload), (145, 1, .iconst (-1)), (146, 3, .if_icmp .ne 28), (149, 1, .aload_n 0), (150, 2, .iload 7), (152, 3, .invokevirtual 231), (155, 2, .iload 6), (157, 1, .iconst 1), (158, 1, .isub), (159, 3, .if_icmp .ne 15), (162, 1, .aload_n 0), (163, 3, .getfield 49), (166, 2, .iload 7), (168, 2, .iload 6), (170, 1, .iastore), (171, 1, .iconst 1), (172, 2, .istore 5), (174, 3, .iinc 7 1), (177, 3, .goto (-57)), (180, 3, .iinc 6 1), (183, 3, .goto (-74)), (186, 1, .aload_n 0), (187, 3, .getfield 49), (190, 2, .bipush 24), (192, 2, .iload 4), (194, 1, .imul), (195, 1, .iload_n 3), (196, 1, .iadd), (197, 1, .iaload), (198, 2, .istore 6), (200, 2, .iload 6), (202, 1, .iconst (-1)), (203, 3, .if_icmp .ne 8), (206, 2, .bipush (-104)), (208, 3, .goto 5), (211, 2, .iload 6), (213, 1, .ireturn)]
def zc_218 : List (Nat × Nat × Instr) := [(0, 1, .iconst 0), (1, 1, .istore_n 2), (2, 1, .iconst 0), (3, 1, .istore_n 3), (4, 1, .iconst 0), (5, 2, .istore 4), (7, 2, .iload 4), (9, 1, .aload_n 0), (10, 3, .getfield 7), (13, 2, .bipush 120), (15, 1, .iaload), (16, 3, .if_icmp .ge 70), (19, 1, .iload_n 3), (20, 2, .iload 4), (22, 1, .ishr), (23, 1, .iconst 1), (24, 1, .iand), (25, 3, .ifCond .ne 55), (28, 3, .iinc 2 1), (31, 1, .aload_n 0), (32, 2, .iload 4), (34, 1, .iload_n 1), (35, 3, .invokevirtual 154), (38, 1, .iconst 0), (39, 2, .istore 5), (41, 2, .iload 5), (43, 1, .aload_n 0), (44, 3, .getfield 7), (47, 2, .bipush 120), (49, 1, .iaload), (50, 3, .if_icmp .ge 30), (53, 1, .iload_n 3), (54, 1, .aload_n 0), (55, 3, .getfield 28), (58, 2, .iload 5), (60, 1, .iaload), (61, 3, .ifCond .lt 10), (64, 1, .iconst 1), (65, 2, .iload 5), (67, 1, .ishl), (68, 3, .goto 4), (71, 1, .iconst 0), (72, 1, .ior), (73, 1, .istore_n 3), (74, 3, .iinc 5 1), (77, 3, .goto (-36)), (80, 3, .iinc 4 1), (83, 3, .goto (-76)), (86, 1, .iload_n 2), (87, 1, .ireturn)]
def zc_219 : List (Nat × Nat × Instr) := [(0, 1, .iconst 0), (1, 1, .istore_n 2), (2, 1, .iload_n 1), (3, 53, .tableswitch 314 0 9 #[53, 61, 69, 107, 145, 182, 223, 261, 267, 309]), (56, 1, .aload_n 0), (57, 3, .getfield 7), (60, 2, .bipush 120), (62, 1, .iaload), (63, 1, .ireturn), (64, 1, .aload_n 0), (65, 3, .getfield 7), (68, 2, .bipush 121), (70, 1, .iaload), (71, 1, .ireturn), (72, 1, .iconst 0), (73, 1, .istore_n 3), (74, 1, .iload_n 3), (75, 1, .aload_n 0), (76, 3, .getfield 7), (79, 2, .bipush 121), (81, 1, .iaload), (82, 3, .if_icmp .ge 26), (85, 1, .iload_n 2), (86, 1, .aload_n 0), (87, 1, .iload_n 3), (88, 1, .iconst 2), (89, 3, .invokevirtual 85), (92, 3, .ifCond .lt 7), (95, 1, .iconst 1), (96, 3, .goto 4), (99, 1, .iconst 0), (100, 1, .iadd), (101, 1, .istore_n 2), (102, 3, .iinc 3 1), (105, 3, .goto (-31)), (108, 1, .iload_n 2), (109, 1, .ireturn), (110, 1, .iconst 0), (111, 1, .istore_n 3), (112, 1, .iload_n 3), (113, 1, .aload_n 0), (114, 3, .getfield 7), (117, 2, .bipush 120), (119, 1, .iaload), (120, 3, .if_icmp .ge 26), (123, 1, .iload_n 2), (124, 1, .aload_n 0), (125, 1, .iload_n 3), (126, 1, .iconst 4), (127, 3, .invokevirtual 62), (130, 3, .ifCond .lt 7), (133, 1, .iconst 1), (134, 3, .goto 4), (137, 1, .iconst 0), (138, 1, .iadd), (139, 1, .istore_n 2), (140, 3, .iinc 3 1), (143, 3, .goto (-31)), (146, 1, .iload_n 2), (147, 1, .ireturn), (148, 1, .iconst 0), (149, 1, .istore_n 3), (150, 1, .iload_n 3), (151, 1, .aload_n 0), (152, 3, .getfield 7), (155, 2, .bipush 120), (157, 1, .iaload), (158, 3, .if_icmp .ge 25), (161, 1, .iload_n 2), (162, 1, .aload_n 0), (163, 1, .iload_n 3), (164, 1, .iconst 2), (165, 3, .invokevirtual 62), (168, 1, .aload_n 0), (169, 1, .iload_n 3), (170, 1, .iconst 3), (171, 3, .invokevirtual 62), (174, 1, .imul), (175, 1, .iadd), (176, 1, .istore_n 2), (177, 3, .iinc 3 1), (180, 3, .goto (-30)), (183, 1, .iload_n 2), (184, 1, .ireturn), (185, 1, .iconst 0), (186, 1, .istore_n 3), (187, 1, .iload_n 3), (188, 3, .sipush 384), (191, 3, .if_icmp .ge 33), (194, 1, .iload_n 2), (195, 1, .aload_n 0), (196, 1, .iload_n 3), (197, 2, .bipush 24), (199, 1, .irem), (200, 1, .iload_n 3), (201, 2, .bipush 24), (203, 1, .idiv), (204, 1, .iconst 0), (205, 3, .invokevirtual 224), (208, 3, .ifCond .lt 7), (211, 1, .iconst 1), (212, 3, .goto 4), (215, 1, .iconst 0), (216, 1, .iadd), (217, 1, .istore_n 2), (218, 3, .iinc 3 1), (221, 3, .goto (-34)), (224, 1, .iload_n 2), (225, 1, .ireturn), (226, 1, .iconst 0), (227, 1, .istore_n 3), (228, 1, .iload_n 3), (229, 1, .aload_n 0), (230, 3, .getfield 7), (233, 2, .bipush 120), (235, 1, .iaload), (236, 3, .if_icmp .ge 26), (239, 1, .iload_n 2), (240, 1, .aload_n 0), (241, 1, .iload_n 3), (242, 3, .invokevirtual 161), (245, 1, .iconst 1), (246, 3, .if_icmp .ne 7), (249, 1, .iconst 1), (250, 3, .goto 4), (253, 1, .iconst 0), (254, 1, .iadd), (255, 1, .istore_n 2), (256, 3, .iinc 3 1), (259, 3, .goto (-31)), (262, 1, .iload_n 2), (263, 1, .ireturn), (264, 1, .aload_n 0), (265, 1, .iconst (-1)), (266, 3, .invokevirtual 234), (269, 1, .ireturn), (270, 1, .iconst 0), (271, 1, .istore_n 3), (272, 1, .iload_n 3), (273, 1, .aload_n 0), (274, 3, .getfield 7), (277, 2, .bipush 121), (279, 1, .iaload), (280, 3, .if_icmp .ge 30), (283, 1, .iload_n 2), (284, 1, .aload_n 0), (285, 1, .iload_n 3), (286, 3, .invokevirtual 234), (289, 1, .aload_n 0), (290, 1, .iconst (-1)), (291, 3, .invokevirtual 234), (294, 3, .if_icmp .le 7), (297, 1, .iconst 1), (298, 3, .goto 4), (301, 1, .iconst 0), (302, 1, .iadd), (303, 1, .istore_n 2), (304, 3, .iinc 3 1), (307, 3, .goto (-35)), (310, 1, .iload_n 2), (311, 1, .ireturn), (312, 1, .aload_n 0), (313, 3, .getfield 189), (316, 1, .ireturn), (317, 2, .bipush (-102)), (319, 1, .ireturn)]
def zc_220 : List (Nat × Nat × Instr) := [(0, 1, .aload_n 0), (1, 1, .iload_n 1), (2, 3, .invokevirtual 88), (5, 3, .ifCond .ne 6), (8, 2, .bipush (-101)), (10, 1, .ireturn), (11, 1, .iload_n 2), (12, 48, .tableswitch 83 0 7 #[48, 48, 48, 48, 55, 65, 71, 77]), (60, 1, .aload_n 0), (61, 1, .iload_n 1), (62, 1, .iload_n 2), (63, 3, .invokevirtual 62), (66, 1, .ireturn), (67, 1, .aload_n 0), (68, 1, .iload_n 1), (69, 1, .iconst 4), (70, 3, .invokevirtual 62), (73, 3, .invokestatic 98), (76, 1, .ireturn), (77, 1, .aload_n 0), (78, 1, .iload_n 1), (79, 3, .invokevirtual 161), (82, 1, .ireturn), (83, 1, .aload_n 0), (84, 1, .iload_n 1), (85, 3, .invokevirtual 66), (88, 1, .ireturn), (89, 1, .aload_n 0), (90, 1, .iload_n 1), (91, 3, .invokevirtual 73), (94, 1, .ireturn), (95, 2, .bipush (-102)), (97, 1, .ireturn)]
def zc_221 : List (Nat × Nat × Instr) := [(0, 1, .aload_n 0), (1, 1, .iload_n 1), (2, 3, .invokevirtual 95), (5, 3, .ifCond .ne 6), (8, 2, .bipush (-101)), (10, 1, .ireturn), (11, 1, .iload_n 2), (12, 32, .tableswitch 55 0 3 #[32, 32, 39, 49]), (44, 1, .aload_n 0), (45, 1, .iload_n 1), (46, 1, .iload_n 2), (47, 3, .invokevirtual 85), (50, 1, .ireturn), (51, 1, .aload_n 0), (52, 1, .iload_n 1), (53, 1, .iconst 2), (54, 3, .invokevirtual 85), (57, 3, .invokestatic 98), (60, 1, .ireturn), (61, 1, .aload_n 0), (62, 1, .iload_n 1), (63, 3, .invokevirtual 237), (66, 1, .ireturn), (67, 2, .bipush (-102)), (69, 1, .ireturn)]
def zc_222 : List (Nat × Nat × Instr) := [(0, 1, .aload_n 0), (1, 1, .iload_n 1), (2, 3, .invokevirtual 88), (5, 3, .ifCond .eq 23), (8, 1, .aload_n 0), (9, 1, .iload_n 2), (10, 3, .invokevirtual 88), (13, 3, .ifCond .eq 15), (16, 1, .aload_n 0), (17, 1, .iload_n 1), (18, 1, .iload_n 2), (19, 3, .invokevirtual 92), (22, 3, .invokestatic 98), (25, 3, .goto 5), (28, 2, .bipush (-101)), (30, 1, .ireturn)]
def zc_223 : List (Nat × Nat × Instr) := [(0, 1, .aload_n 0), (1, 3, .getfield 7), (4, 2, .bipush 120), (6, 1, .iaload), (7, 3, .ifCond .ne 8), (10, 2, .bipush (-104)), (12, 3, .goto 10), (15, 1, .aload_n 0), (16, 3, .getfield 7), (19, 2, .bipush 122), (21, 1, .iaload), (22, 1, .ireturn)]
def zc_224 : List (Nat × Nat × Instr) := [(0, 1, .aload_n 0), (1, 1, .iload_n 1), (2, 3, .invokevirtual 88), (5, 3, .ifCond .eq 11), (8, 1, .aload_n 0), (9, 1, .iload_n 1), (10, 3, .invokevirtual 158), (13, 3, .goto 5), (16, 2, .bipush (-101)), (18, 1, .ireturn)]
def zc_225 : List (Nat × Nat × Instr) := [(0, 1, .aload_n 0), (1, 1, .iload_n 1), (2, 3, .invokevirtual 88), (5, 3, .ifCond .eq 11), (8, 1, .aload_n 0), (9, 1, .iload_n 1), (10, 3, .invokevirtual 176), (13, 3, .goto 5), (16, 2, .bipush (-101)), (18, 1, .ireturn)]
def zc_226 : List (Nat × Nat × Instr) := [(0, 1, .aload_n 0), (1, 3, .invokevirtual 240), (4, 1, .aload_n 0), (5, 3, .getfield 167), (8, 1, .ireturn)]
def zc_227 : List (Nat × Nat × Instr) := [(0, 1, .aload_n 0), (1, 3, .invokevirtual 240), (4, 1, .iload_n 1), (5, 1, .iconst 0), (6, 1, .aload_n 0), (7, 3, .getfield 167), (10, 1, .iconst 1), (11, 1, .isub), (12, 3, .invokestatic 58), (15, 3, .ifCond .eq 12), (18, 1, .aload_n 0), (19, 3, .getfield 31), (22, 1, .iload_n 1), (23, 1, .iaload), (24, 3, .goto 5), (27, 2, .bipush (-101)), (29, 1, .ireturn)]
def zc_228 : List (Nat × Nat × Instr) := [(0, 1, .aload_n 0), (1, 1, .iload_n 1), (2, 3, .invokevirtual 88), (5, 3, .ifCond .ne 6), (8, 2, .bipush (-101)), (10, 1, .ireturn), (11, 1, .aload_n 0), (12, 3, .invokevirtual 240), (15, 1, .iconst 0), (16, 1, .istore_n 2), (17, 1, .iload_n 2), (18, 1, .aload_n 0), (19, 3, .getfield 167), (22, 3, .if_icmp .ge 21), (25, 1, .aload_n 0), (26, 3, .getfield 31), (29, 1, .iload_n 2), (30, 1, .iaload), (31, 1, .iload_n 1), (32, 3, .if_icmp .ne 5), (35, 1, .iload_n 2), (36, 1, .ireturn), (37, 3, .iinc 2 1), (40, 3, .goto (-23)), (43, 2, .bipush (-104)), (45, 1, .ireturn)]
def zc_229 : List (Nat × Nat × Instr) := [(0, 1, .aload_n 0), (1, 3, .invokevirtual 240), (4, 1, .aload_n 0), (5, 3, .getfield 7), (8, 2, .bipush 120), (10, 1, .iaload), (11, 3, .ifCond .ne 8), (14, 2, .bipush (-104)), (16, 3, .goto 22), (19, 1, .aload_n 0), (20, 3, .getfield 167), (23, 1, .aload_n 0), (24, 3, .getfield 7), (27, 2, .bipush 120), (29, 1, .iaload), (30, 3, .if_icmp .ne 7), (33, 1, .iconst 1), (34, 3, .goto 4), (37, 1, .iconst 0), (38, 1, .ireturn)]
def zc_230 : List (Nat × Nat × Instr) := [(0, 1, .aload_n 0), (1, 3, .invokevirtual 240), (4, 1, .aload_n 0), (5, 3, .getfield 164), (8, 1, .ireturn)]
def zc_231 : List (Nat × Nat × Instr) := [(0, 1, .aload_n 0), (1, 1, .iload_n 1), (2, 3, .invokevirtual 88), (5, 3, .ifCond .ne 6), (8, 2, .bipush (-101)), (10, 1, .ireturn), (11, 1, .aload_n 0), (12, 3, .invokevirtual 240), (15, 1, .aload_n 0), (16, 3, .getfield 34), (19, 1, .iload_n 1), (20, 1, .baload), (21, 3, .ifCond .ne 6), (24, 2, .bipush (-104)), (26, 1, .ireturn), (27, 1, .iconst 0), (28, 1, .istore_n 2), (29, 1, .iconst 0), (30, 1, .istore_n 3), (31, 1, .iload_n 3), (32, 2, .bipush 6), (34, 3, .if_icmp .ge 35), (37, 1, .aload_n 0), (38, 1, .iconst (-1)), (39, 1, .iload_n 3), (40, 1, .iconst (-1)), (41, 3, .invokevirtual 179), (44, 1, .iload_n 2), (45, 1, .aload_n 0), (46, 3, .getfield 34), (49, 1, .iload_n 1), (50, 1, .baload), (51, 3, .ifCond .eq 7), (54, 1, .iconst 0), (55, 3, .goto 6), (58, 1, .iconst 1), (59, 1, .iload_n 3), (60, 1, .ishl), (61, 1, .ior), (62, 1, .istore_n 2), (63, 3, .iinc 3 1), (66, 3, .goto (-35)), (69, 1, .iload_n 2), (70, 1, .ireturn)]
def zc_232 : List (Nat × Nat × Instr) := [(0, 1, .aload_n 0), (1, 1, .iload_n 1), (2, 3, .invokevirtual 88), (5, 3, .ifCond .ne 6), (8, 2, .bipush (-101)), (10, 1, .ireturn), (11, 1, .aload_n 0), (12, 3, .invokevirtual 240), (15, 1, .aload_n 0), (16, 3, .getfield 34), (19, 1, .iload_n 1), (20, 1, .baload), (21, 3, .ifCond .eq 6), (24, 2, .bipush (-104)), (26, 1, .ireturn), (27, 1, .iconst 0), (28, 1, .istore_n 2), (29, 1, .iconst 0), (30, 1, .istore_n 3), (31, 1, .iload_n 3), (32, 2, .bipush 6), (34, 3, .if_icmp .ge 35), (37, 1, .aload_n 0), (38, 1, .iconst (-1)), (39, 1, .iconst (-1)), (40, 1, .iload_n 3), (41, 3, .invokevirtual 179), (44, 1, .iload_n 2), (45, 1, .aload_n 0), (46, 3, .getfield 34), (49, 1, .iload_n 1), (50, 1, .baload), (51, 3, .ifCond .eq 9), (54, 1, .iconst 1), (55, 1, .iload_n 3), (56, 1, .ishl), (57, 3, .goto 4), (60, 1, .iconst 0), (61, 1, .ior), (62, 1, .istore_n 2), (63, 3, .iinc 3 1), (66, 3, .goto (-35)), (69, 1, .iload_n 2), (70, 1, .ireturn)]
def zc_233 : List (Nat × Nat × Instr) := [(0, 1, .aload_n 0), (1, 1, .iload_n 1), (2, 1, .iconst 4), (3, 3, .invokevirtual 62), (6, 3, .ifCond .lt 14), (9, 1, .iconst 1), (10, 1, .aload_n 0), (11, 1, .iload_n 1), (12, 1, .iconst 4), (13, 3, .invokevirtual 62), (16, 1, .ishl), (17, 3, .goto 4), (20, 1, .iconst 0), (21, 1, .ireturn)]
def zc_234 : List (Nat × Nat × Instr) := [(0, 1, .iload_n 1), (1, 2, .bipush 64), (3, 1, .irem), (4, 1, .istore_n 3), (5, 1, .iload_n 1), (6, 2, .bipush 64), (8, 1, .idiv), (9, 2, .istore 4), (11, 1, .aload_n 0), (12, 1, .iload_n 2), (13, 1, .iconst 0), (14, 3, .invokevirtual 85), (17, 2, .iload 4), (19, 3, .if_icmp .eq 14), (22, 1, .aload_n 0), (23, 1, .iload_n 2), (24, 1, .iconst 1), (25, 3, .invokevirtual 85), (28, 2, .iload 4), (30, 3, .if_icmp .ne 25), (33, 1, .aload_n 0), (34, 1, .iload_n 2), (35, 1, .iconst 2), (36, 3, .invokevirtual 85), (39, 3, .ifCond .lt 18), (42, 1, .iload_n 3), (43, 1, .aload_n 0), (44, 1, .iload_n 2), (45, 1, .iconst 2), (46, 3, .invokevirtual 85), (49, 1, .ishr), (50, 1, .iconst 1), (51, 1, .iand), (52, 3, .ifCond .ne 5), (55, 1, .iconst (-1)), (56, 1, .ireturn), (57, 1, .aload_n 0), (58, 1, .iload_n 2), (59, 1, .iconst 0), (60, 3, .invokevirtual 85), (63, 2, .iload 4), (65, 3, .if_icmp .ne 12), (68, 1, .aload_n 0), (69, 1, .iload_n 2), (70, 1, .iconst 1), (71, 3, .invokevirtual 85), (74, 3, .goto 9), (77, 1, .aload_n 0), (78, 1, .iload_n 2), (79, 1, .iconst 0), (80, 3, .invokevirtual 85), (83, 2, .istore 5), (85, 2, .bipush 64), (87, 2, .iload 5), (89, 1, .imul), (90, 1, .iload_n 3), (91, 1, .aload_n 0), (92, 2, .iload 5), (94, 3, .invokevirtual 243), (97, 1, .ior), (98, 1, .iadd), (99, 1, .ireturn)]
def zc_235 : List (Nat × Nat × Instr) := [(0, 1, .aload_n 0), (1, 1, .iload_n 1), (2, 2, .bipush 64), (4, 1, .idiv), (5, 1, .iload_n 2), (6, 3, .invokevirtual 92), (9, 1, .istore_n 3), (10, 1, .iload_n 3), (11, 1, .iconst (-1)), (12, 3, .if_icmp .ne 7), (15, 1, .iconst (-1)), (16, 3, .goto 9), (19, 1, .aload_n 0), (20, 1, .iload_n 1), (21, 1, .iload_n 3), (22, 3, .invokevirtual 246), (25, 1, .ireturn)]
def zc_236 : List (Nat × Nat × Instr) := [(0, 2, .bipush 64), (2, 1, .aload_n 0), (3, 3, .getfield 7), (6, 2, .bipush 122), (8, 1, .iaload), (9, 1, .imul), (10, 1, .aload_n 0), (11, 1, .aload_n 0), (12, 3, .getfield 7), (15, 2, .bipush 122), (17, 1, .iaload), (18, 3, .invokevirtual 243), (21, 1, .iadd), (22, 1, .ireturn)]
def zc_237 : List (Nat × Nat × Instr) := [(0, 1, .iconst 0), (1, 1, .istore_n 2), (2, 1, .iload_n 2), (3, 3, .sipush 768), (6, 3, .if_icmp .ge 28), (9, 1, .aload_n 0), (10, 3, .getfield 55), (13, 1, .iload_n 2), (14, 1, .iload_n 2), (15, 2, .bipush 64), (17, 1, .idiv), (18, 1, .iload_n 1), (19, 3, .if_icmp .ne 7), (22, 1, .iconst 0), (23, 3, .goto 4), (26, 1, .iconst (-1)), (27, 1, .iastore), (28, 3, .iinc 2 1), (31, 3, .goto (-29)), (34, 1, .iconst 1), (35, 1, .istore_n 2), (36, 1, .iconst 1), (37, 1, .istore_n 3), (38, 1, .iload_n 2), (39, 3, .ifCond .eq 105), (42, 1, .iconst 0), (43, 1, .istore_n 2), (44, 1, .iconst 0), (45, 2, .istore 4), (47, 2, .iload 4), (49, 2, .bipush 64), (51, 1, .aload_n 0), (52, 3, .getfield 7), (55, 2, .bipush 120), (57, 1, .iaload), (58, 1, .imul), (59, 3, .if_icmp .ge 79), (62, 1, .iconst 0), (63, 2, .istore 5), (65, 2, .iload 5), (67, 1, .aload_n 0), (68, 3, .getfield 7), (71, 2, .bipush 121), (73, 1, .iaload), (74, 3, .if_icmp .ge 58), (77, 1, .aload_n 0), (78, 3, .getfield 55), (81, 2, .iload 4), (83, 1, .iaload), (84, 1, .iconst (-1)), (85, 3, .if_icmp .ne 47), (88, 1, .aload_n 0), (89, 2, .iload 4), (91, 2, .iload 5), (93, 3, .invokevirtual 246), (96, 2, .istore 6), (98, 2, .iload 6), (100, 3, .ifCond .lt 26), (103, 1, .aload_n 0), (104, 3, .getfield 55), (107, 2, .iload 6), (109, 1, .iaload), (110, 1, .iload_n 3), (111, 1, .iconst 1), (112, 1, .isub), (113, 3, .if_icmp .ne 13), (116, 1, .aload_n 0), (117, 3, .getfield 55), (120, 2, .iload 4), (122, 1, .iload_n 3), (123, 1, .iastore), (124, 1, .iconst 1), (125, 1, .istore_n 2), (126, 3, .iinc 5 1), (129, 3, .goto (-64)), (132, 3, .iinc 4 1), (135, 3, .goto (-88)), (138, 3, .iinc 3 1), (141, 3, .goto (-103)), (144, 1, .return_)]
def zc_238 : List (Nat × Nat × Instr) := [(0, 1, .aload_n 0), (1, 1, .iload_n 1), (2, 3, .invokevirtual 88), (5, 3, .ifCond .ne 6), (8, 2, .bipush (-101)), (10, 1, .ireturn), (11, 1, .aload_n 0), (12, 1, .iload_n 1), (13, 3, .invokevirtual 249), (16, 1, .aload_n 0), (17, 3, .getfield 55), (20, 1, .aload_n 0), (21, 3, .invokevirtual 252), (24, 1, .iaload), (25, 3, .invokestatic 98), (28, 1, .ireturn)]
def zc_239 : List (Nat × Nat × Instr) := [(0, 1, .aload_n 0), (1, 1, .iload_n 1), (2, 3, .invokevirtual 88), (5, 3, .ifCond .ne 6), (8, 2, .bipush (-101)), (10, 1, .ireturn), (11, 1, .aload_n 0), (12, 1, .iload_n 1), (13, 3, .invokevirtual 249), (16, 1, .aload_n 0), (17, 3, .getfield 55), (20, 1, .aload_n 0), (21, 3, .invokevirtual 252), (24, 1, .iaload), (25, 1, .istore_n 3), (26, 1, .iload_n 3), (27, 1, .iconst (-1)), (28, 3, .if_icmp .ne 6), (31, 2, .bipush (-104)), (33, 1, .ireturn), (34, 1, .iload_n 2), (35, 1, .iconst 0), (36, 1, .iload_n 3), (37, 3, .invokestatic 58), (40, 3, .ifCond .ne 6), (43, 2, .bipush (-102)), (45, 1, .ireturn), (46, 1, .aload_n 0), (47, 3, .invokevirtual 252), (50, 2, .istore 4), (52, 1, .iconst 0), (53, 2, .istore 5), (55, 2, .iload 5), (57, 1, .iload_n 2), (58, 3, .if_icmp .ge 65), (61, 1, .iconst 0), (62, 2, .istore 6), (64, 1, .aload_n 0), (65, 2, .iload 4), (67, 2, .iload 6), (69, 3, .invokevirtual 255), (72, 1, .iconst (-1)), (73, 3, .if_icmp .eq 28), (76, 1, .aload_n 0), (77, 3, .getfield 55), (80, 1, .aload_n 0), (81, 2, .iload 4), (83, 2, .iload 6), (85, 3, .invokevirtual 255), (88, 1, .iaload), (89, 1, .aload_n 0), (90, 3, .getfield 55), (93, 2, .iload 4), (95, 1, .iaload), (96, 1, .iconst 1), (97, 1, .isub), (98, 3, .if_icmp .eq 9), (101, 3, .iinc 6 1), (104, 3, .goto (-40)), (107, 1, .aload_n 0), (108, 2, .iload 4), (110, 2, .iload 6), (112, 3, .invokevirtual 255), (115, 2, .istore 4), (117, 3, .iinc 5 1), (120, 3, .goto (-65)), (123, 2, .iload 4), (125, 2, .bipush 64), (127, 1, .idiv), (128, 1, .ireturn)]
def zc_240 : List (Nat × Nat × Instr) := [(0, 1, .aload_n 0), (1, 3, .getfield 7), (4, 2, .bipush 120), (6, 1, .iaload), (7, 3, .ifCond .ne 6), (10, 2, .bipush (-104)), (12, 1, .ireturn), (13, 1, .iconst 0), (14, 1, .istore_n 1), (15, 1, .iconst 0), (16, 1, .istore_n 2), (17, 1, .iload_n 2), (18, 1, .aload_n 0), (19, 3, .getfield 7), (22, 2, .bipush 120), (24, 1, .iaload), (25, 3, .if_icmp .ge 41), (28, 1, .aload_n 0), (29, 1, .iload_n 2), (30, 3, .invokevirtual 249), (33, 1, .aload_n 0), (34, 3, .getfield 55), (37, 1, .aload_n 0), (38, 3, .invokevirtual 252), (41, 1, .iaload), (42, 1, .iload_n 1), (43, 3, .if_icmp .le 15), (46, 1, .aload_n 0), (47, 3, .getfield 55), (50, 1, .aload_n 0), (51, 3, .invokevirtual 252), (54, 1, .iaload), (55, 3, .goto 4), (58, 1, .iload_n 1), (59, 1, .istore_n 1), (60, 3, .iinc 2 1), (63, 3, .goto (-46)), (66, 1, .iload_n 1), (67, 1, .ireturn)]
def zc_241 : List (Nat × Nat × Instr) := [(0, 1, .aload_n 0), (1, 3, .invokevirtual 240), (4, 1, .iload_n 1), (5, 1, .iconst 1), (6, 1, .aload_n 0), (7, 3, .getfield 167), (10, 1, .iconst 1), (11, 1, .isub), (12, 3, .invokestatic 58), (15, 3, .ifCond .ne 6), (18, 2, .bipush (-101)), (20, 1, .ireturn), (21, 1, .aload_n 0), (22, 1, .aload_n 0), (23, 3, .getfield 31), (26, 1, .iload_n 1), (27, 1, .iaload), (28, 3, .invokevirtual 176), (31, 1, .aload_n 0), (32, 1, .aload_n 0), (33, 3, .getfield 31), (36, 1, .iload_n 1), (37, 1, .iconst 1), (38, 1, .isub), (39, 1, .iaload), (40, 3, .invokevirtual 176), (43, 1, .isub), (44, 3, .sipush 1000), (47, 1, .iadd), (48, 1, .ireturn)]
def zc_242 : List (Nat × Nat × Instr) := [(0, 1, .aload_n 0), (1, 3, .invokevirtual 240), (4, 1, .iconst 0), (5, 1, .istore_n 1), (6, 1, .iconst 1), (7, 1, .istore_n 2), (8, 1, .iload_n 2), (9, 1, .aload_n 0), (10, 3, .getfield 167), (13, 3, .if_icmp .ge 42), (16, 1, .iload_n 1), (17, 1, .aload_n 0), (18, 1, .aload_n 0), (19, 3, .getfield 31), (22, 1, .iload_n 2), (23, 1, .iaload), (24, 3, .invokevirtual 176), (27, 1, .aload_n 0), (28, 1, .aload_n 0), (29, 3, .getfield 31), (32, 1, .iload_n 2), (33, 1, .iconst 1), (34, 1, .isub), (35, 1, .iaload), (36, 3, .invokevirtual 176), (39, 3, .if_icmp .ge 7), (42, 1, .iconst 1), (43, 3, .goto 4), (46, 1, .iconst 0), (47, 1, .iadd), (48, 1, .istore_n 1), (49, 3, .iinc 2 1), (52, 3, .goto (-44)), (55, 1, .iload_n 1), (56, 1, .ireturn)]
def zc_243 : List (Nat × Nat × Instr) := [(0, 1, .aload_n 0), (1, 3, .invokevirtual 240), (4, 1, .iconst 0), (5, 1, .istore_n 1), (6, 1, .iconst 1), (7, 1, .istore_n 2), (8, 1, .iload_n 2), (9, 1, .aload_n 0), (10, 3, .getfield 167), (13, 3, .if_icmp .ge 36), (16, 1, .aload_n 0), (17, 1, .aload_n 0), (18, 3, .getfield 31), (21, 1, .iload_n 2), (22, 1, .iconst 1), (23, 1, .isub), (24, 1, .iaload), (25, 1, .iconst (-1)), (26, 3, .invokevirtual 154), (29, 1, .iload_n 1), (30, 1, .aload_n 0), (31, 3, .getfield 28), (34, 1, .aload_n 0), (35, 3, .getfield 31), (38, 1, .iload_n 2), (39, 1, .iaload), (40, 1, .iaload), (41, 1, .iadd), (42, 1, .istore_n 1), (43, 3, .iinc 2 1), (46, 3, .goto (-38)), (49, 1, .iload_n 1), (50, 1, .ireturn)]
def zc_244 : List (Nat × Nat × Instr) := [(0, 1, .aload_n 0), (1, 3, .getfield 7), (4, 2, .bipush 120), (6, 1, .iaload), (7, 3, .ifCond .ne 7), (10, 3, .ldc2_w 260), (13, 1, .lreturn), (14, 1, .iconst 0), (15, 1, .istore_n 1), (16, 1, .iconst 0), (17, 1, .istore_n 2), (18, 1, .iload_n 2), (19, 1, .aload_n 0), (20, 3, .getfield 7), (23, 2, .bipush 120), (25, 1, .iaload), (26, 3, .if_icmp .ge 17), (29, 1, .iload_n 1), (30, 1, .aload_n 0), (31, 1, .iload_n 2), (32, 3, .invokevirtual 176), (35, 1, .iadd), (36, 1, .istore_n 1), (37, 3, .iinc 2 1), (40, 3, .goto (-22)), (43, 1, .iload_n 1), (44, 1, .i2d), (45, 1, .aload_n 0), (46, 3, .getfield 7), (49, 2, .bipush 120), (51, 1, .iaload), (52, 1, .i2d), (53, 1, .ddiv), (54, 3, .invokestatic 262), (57, 1, .lreturn)]
def zc_245 : List (Nat × Nat × Instr) := [(0, 1, .aload_n 0), (1, 1, .iconst 1), (2, 3, .putfield 268), (5, 1, .iconst 0), (6, 1, .istore_n 1), (7, 1, .iload_n 1), (8, 2, .bipush 124), (10, 3, .if_icmp .ge 21), (13, 1, .aload_n 0), (14, 3, .getfield 16), (17, 1, .iload_n 1), (18, 1, .aload_n 0), (19, 3, .getfield 7), (22, 1, .iload_n 1), (23, 1, .iaload), (24, 1, .iastore), (25, 3, .iinc 1 1), (28, 3, .goto (-21)), (31, 1, .aload_n 0), (32, 3, .getfield 7), (35, 2, .bipush 120), (37, 1, .iaload), (38, 1, .ireturn)]
def zc_246 : List (Nat × Nat × Instr) := [(0, 1, .aload_n 0), (1, 3, .getfield 268), (4, 3, .ifCond .ne 6), (7, 2, .bipush (-105)), (9, 1, .ireturn), (10, 1, .iconst 0), (11, 1, .istore_n 1), (12, 1, .iload_n 1), (13, 2, .bipush 124), (15, 3, .if_icmp .ge 21), (18, 1, .aload_n 0), (19, 3, .getfield 7), (22, 1, .iload_n 1), (23, 1, .aload_n 0), (24, 3, .getfield 16), (27, 1, .iload_n 1), (28, 1, .iaload), (29, 1, .iastore), (30, 3, .iinc 1 1), (33, 3, .goto (-21)), (36, 1, .aload_n 0), (37, 1, .iconst 0), (38, 3, .putfield 76), (41, 1, .aload_n 0), (42, 3, .getfield 7), (45, 2, .bipush 120), (47, 1, .iaload), (48, 1, .ireturn)]
def zc_247 : List (Nat × Nat × Instr) := [(0, 1, .dload_n 0), (1, 1, .dload_n 0), (2, 1, .dcmp .l), (3, 3, .ifCond .eq 7), (6, 1, .iconst 1), (7, 3, .goto 4), (10, 1, .iconst 0), (11, 1, .ireturn)]
def zc_248 : List (Nat × Nat × Instr) := [(0, 1, .dload_n 0), (1, 3, .invokestatic 122), (4, 3, .ifCond .ne 8), (7, 1, .dload_n 0), (8, 3, .invokestatic 134), (11, 1, .lreturn), (12, 3, .ldc2_w 137), (15, 1, .lreturn)]
def zc_249 : List (Nat × Nat × Instr) := [(0, 1, .iload_n 0), (1, 1, .iload_n 0), (2, 1, .iconst 1), (3, 1, .iushr), (4, 3, .ldc_w 265), (7, 1, .iand), (8, 1, .isub), (9, 1, .istore_n 0), (10, 1, .iload_n 0), (11, 3, .ldc_w 266), (14, 1, .iand), (15, 1, .iload_n 0), (16, 1, .iconst 2), (17, 1, .iushr), (18, 3, .ldc_w 266), (21, 1, .iand), (22, 1, .iadd), (23, 1, .istore_n 0), (24, 1, .iload_n 0), (25, 1, .iload_n 0), (26, 1, .iconst 4), (27, 1, .iushr), (28, 1, .iadd), (29, 3, .ldc_w 267), (32, 1, .iand), (33, 1, .istore_n 0), (34, 1, .iload_n 0), (35, 1, .iload_n 0), (36, 2, .bipush 8), (38, 1, .iushr), (39, 1, .iadd), (40, 1, .istore_n 0), (41, 1, .iload_n 0), (42, 1, .iload_n 0), (43, 2, .bipush 16), (45, 1, .iushr), (46, 1, .iadd), (47, 1, .istore_n 0), (48, 1, .iload_n 0), (49, 2, .bipush 63), (51, 1, .iand), (52, 1, .ireturn)]
def zc_250 : List (Nat × Nat × Instr) := [(0, 1, .iload_n 0), (1, 2, .bipush 31), (3, 1, .ishr), (4, 1, .iload_n 0), (5, 1, .ineg), (6, 2, .bipush 31), (8, 1, .iushr), (9, 1, .ior), (10, 1, .ireturn)]
def zc_251 : List (Nat × Nat × Instr) := [(0, 1, .iload_n 0), (1, 3, .ifCond .ge 8), (4, 1, .iload_n 0), (5, 1, .ineg), (6, 3, .goto 4), (9, 1, .iload_n 0), (10, 1, .ireturn)]
def zc_252 : List (Nat × Nat × Instr) := [(0, 1, .iload_n 0), (1, 1, .iload_n 1), (2, 3, .if_icmp .lt 7), (5, 1, .iload_n 0), (6, 3, .goto 4), (9, 1, .iload_n 1), (10, 1, .ireturn)]
def zc_253 : List (Nat × Nat × Instr) := [(0, 1, .iload_n 0), (1, 1, .iload_n 1), (2, 3, .if_icmp .gt 7), (5, 1, .iload_n 0), (6, 3, .goto 4), (9, 1, .iload_n 1), (10, 1, .ireturn)]
def zc_254 : List (Nat × Nat × Instr) := [(0, 1, .iconst 0), (1, 1, .istore_n 2), (2, 1, .aload_n 0), (3, 1, .arraylength), (4, 1, .istore_n 3), (5, 1, .iload_n 2), (6, 1, .iload_n 3), (7, 3, .if_icmp .ge 13), (10, 1, .aload_n 0), (11, 1, .iload_n 2), (12, 1, .iload_n 1), (13, 1, .iastore), (14, 3, .iinc 2 1), (17, 3, .goto (-12)), (20, 1, .return_)]
def zc_255 : List (Nat × Nat × Instr) := [(0, 3, .new 7), (3, 1, .dup), (4, 3, .invokespecial 9), (7, 1, .astore_n 1), (8, 3, .new 10), (11, 1, .dup), (12, 3, .invokespecial 12), (15, 1, .astore_n 2), (16, 1, .iconst 0), (17, 1, .istore_n 3), (18, 1, .iload_n 3), (19, 1, .aload_n 0), (20, 1, .arraylength), (21, 1, .iconst 5), (22, 1, .isub), (23, 3, .if_icmp .gt 1149), (26, 1, .aload_n 0), (27, 1, .iload_n 3), (28, 1, .iaload), (29, 2, .bipush 63), (31, 1, .iand), (32, 180, .tableswitch 1134 0 40 #[180, 233, 266, 299, 332, 355, 378, 401, 434, 447, 460, 483, 506, 519, 532, 545, 568, 601, 634, 667, 680, 713, 746, 799, 822, 845, 858, 881, 904, 917, 930, 953, 976, 999, 1032, 1045, 1068, 1081, 1094, 1108, 1121]), (212, 1, .aload_n 1), (213, 1, .aload_n 0), (214, 1, .iload_n 3), (215, 1, .iconst 1), (216, 1, .iadd), (217, 1, .iaload), (218, 1, .aload_n 0), (219, 1, .iload_n 3), (220, 1, .iconst 2), (221, 1, .iadd), (222, 1, .iaload), (223, 1, .aload_n 0), (224, 1, .iload_n 3), (225, 1, .iconst 3), (226, 1, .iadd), (227, 1, .iaload), (228, 1, .aload_n 0), (229, 1, .iload_n 3), (230, 1, .iconst 4), (231, 1, .iadd), (232, 1, .iaload), (233, 3, .invokevirtual 13), (236, 1, .aload_n 2), (237, 1, .aload_n 0), (238, 1, .iload_n 3), (239, 1, .iconst 1), (240, 1, .iadd), (241, 1, .iaload), (242, 1, .aload_n 0), (243, 1, .iload_n 3), (244, 1, .iconst 2), (245, 1, .iadd), (246, 1, .iaload), (247, 1, .aload_n 0), (248, 1, .iload_n 3), (249, 1, .iconst 3), (250, 1, .iadd), (251, 1, .iaload), (252, 1, .aload_n 0), (253, 1, .iload_n 3), (254, 1, .iconst 4), (255, 1, .iadd), (256, 1, .iaload), (257, 3, .invokevirtual 17), (260, 3, .if_icmp .eq 906), (263, 1, .iconst 0), (264, 1, .ireturn), (265, 1, .aload_n 1), (266, 1, .aload_n 0), (267, 1, .iload_n 3), (268, 1, .iconst 1), (269, 1, .iadd), (270, 1, .iaload), (271, 1, .aload_n 0), (272, 1, .iload_n 3), (273, 1, .iconst 2), (274, 1, .iadd), (275, 1, .iaload), (276, 3, .invokevirtual 18), (279, 1, .aload_n 2), (280, 1, .aload_n 0), (281, 1, .iload_n 3), (282, 1, .iconst 1), (283, 1, .iadd), (284, 1, .iaload), (285, 1, .aload_n 0), (286, 1, .iload_n 3), (287, 1, .iconst 2), (288, 1, .iadd), (289, 1, .iaload), (290, 3, .invokevirtual 22), (293, 3, .if_icmp .eq 873), (296, 1, .iconst 0), (297, 1, .ireturn), (298, 1, .aload_n 1), (299, 1, .aload_n 0), (300, 1, .iload_n 3), (301, 1, .iconst 1), (302, 1, .iadd), (303, 1, .iaload), (304, 1, .aload_n 0), (305, 1, .iload_n 3), (306, 1, .iconst 2), (307, 1, .iadd), (308, 1, .iaload), (309, 3, .invokevirtual 23), (312, 1, .aload_n 2), (313, 1, .aload_n 0), (314, 1, .iload_n 3), (315, 1, .iconst 1), (316, 1, .iadd), (317, 1, .iaload), (318, 1, .aload_n 0), (319, 1, .iload_n 3), (320, 1, .iconst 2), (321, 1, .iadd), (322, 1, .iaload), (323, 3, .invokevirtual 26), (326, 3, .if_icmp .eq 840), (329, 1, .iconst 0), (330, 1, .ireturn), (331, 1, .aload_n 1), (332, 1, .aload_n 0), (333, 1, .iload_n 3), (334, 1, .iconst 1), (335, 1, .iadd), (336, 1, .iaload), (337, 1, .aload_n 0), (338, 1, .iload_n 3), (339, 1, .iconst 2), (340, 1, .iadd), (341, 1, .iaload), (342, 3, .invokevirtual 27), (345, 1, .aload_n 2), (346, 1, .aload_n 0), (347, 1, .iload_n 3), (348, 1, .iconst 1), (349, 1, .iadd), (350, 1, .iaload), (351, 1, .aload_n 0), (352, 1, .iload_n 3), (353, 1, .iconst 2), (354, 1, .iadd), (355, 1, .iaload), (356, 3, .invokevirtual 30), (359, 3, .if_icmp .eq 807), (362, 1, .iconst 0), (363, 1, .ireturn), (364, 1, .aload_n 1), (365, 1, .aload_n 0), (366, 1, .iload_n 3), (367, 1, .iconst 1), (368, 1, .iadd), (369, 1, .iaload), (370, 3, .invokevirtual 31), (373, 1, .aload_n 2), (374, 1, .aload_n 0), (375, 1, .iload_n 3), (376, 1, .iconst 1), (377, 1, .iadd), (378, 1, .iaload), (379, 3, .invokevirtual 35), (382, 3, .if_icmp .eq 784), (385, 1, .iconst 0), (386, 1, .ireturn), (387, 1, .aload_n 1), (388, 1, .aload_n 0), (389, 1, .iload_n 3), (390, 1, .iconst 1), (391, 1, .iadd), (392, 1, .iaload), (393, 3, .invokevirtual 36), (396, 1, .aload_n 2), (397, 1, .aload_n 0), (398, 1, .iload_n 3), (399, 1, .iconst 1), (400, 1, .iadd), (401, 1, .iaload), (402, 3, .invokevirtual 39), (405, 3, .if_icmp .eq 761), (408, 1, .iconst 0), (409, 1, .ireturn), (410, 1, .aload_n 1), (411, 1, .aload_n 0), (412, 1, .iload_n 3), (413, 1, .iconst 1), (414, 1, .iadd), (415, 1, .iaload), (416, 3, .invokevirtual 40), (419, 1, .aload_n 2), (420, 1, .aload_n 0), (421, 1, .iload_n 3), (422, 1, .iconst 1), (423, 1, .iadd), (424, 1, .iaload), (425, 3, .invokevirtual 43), (428, 3, .if_icmp .eq 738), (431, 1, .iconst 0), (432, 1, .ireturn), (433, 1, .aload_n 1), (434, 1, .aload_n 0), (435, 1, .iload_n 3), (436, 1, .iconst 1), (437, 1, .iadd), (438, 1, .iaload), (439, 1, .aload_n 0), (440, 1, .iload_n 3), (441, 1, .iconst 2), (442, 1, .iadd), (443, 1, .iaload), (444, 3, .invokevirtual 44), (447, 1, .aload_n 2), (448, 1, .aload_n 0), (449, 1, .iload_n 3), (450, 1, .iconst 1), (451, 1, .iadd), (452, 1, .iaload), (453, 1, .aload_n 0), (454, 1, .iload_n 3), (455, 1, .iconst 2), (456, 1, .iadd), (457, 1, .iaload), (458, 3, .invokevirtual 47), (461, 3, .if_icmp .eq 705), (464, 1, .iconst 0), (465, 1, .ireturn), (466, 1, .aload_n 1), (467, 3, .invokevirtual 48), (470, 1, .aload_n 2), (471, 3, .invokevirtual 52), (474, 3, .if_icmp .eq 692), (477, 1, .iconst 0), (478, 1, .ireturn), (479, 1, .aload_n 1), (480, 3, .invokevirtual 53), (483, 1, .aload_n 2), (484, 3, .invokevirtual 56), (487, 3, .if_icmp .eq 679), (490, 1, .iconst 0), (491, 1, .ireturn), (492, 1, .aload_n 1), (493, 1, .aload_n 0), (494, 1, .iload_n 3), (495, 1, .iconst 1), (496, 1, .iadd), (497, 1, .iaload), (498, 3, .invokevirtual 57), (501, 1, .aload_n 2), (502, 1, .aload_n 0), (503, 1, .iload_n 3), (504, 1, .iconst 1), (505, 1, .iadd), (506, 1, .iaload), (507, 3, .invokevirtual 60), (510, 3, .if_icmp .eq 656), (513, 1, .iconst 0), (514, 1, .ireturn), (515, 1, .aload_n 1), (516, 1, .aload_n 0), (517, 1, .iload_n 3), (518, 1, .iconst 1), (519, 1, .iadd), (520, 1, .iaload), (521, 3, .invokevirtual 61), (524, 1, .aload_n 2), (525, 1, .aload_n 0), (526, 1, .iload_n 3), (527, 1, .iconst 1), (528, 1, .iadd), (529, 1, .iaload), (530, 3, .invokevirtual 64), (533, 3, .if_icmp .eq 633), (536, 1, .iconst 0), (537, 1, .ireturn), (538, 1, .aload_n 1), (539, 3, .invokevirtual 65), (542, 1, .aload_n 2), (543, 3, .invokevirtual 68), (546, 3, .if_icmp .eq 620), (549, 1, .iconst 0), (550, 1, .ireturn), (551, 1, .aload_n 1), (552, 3, .invokevirtual 69), (555, 1, .aload_n 2), (556, 3, .invokevirtual 72), (559, 3, .if_icmp .eq 607), (562, 1, .iconst 0), (563, 1, .ireturn), (564, 1, .aload_n 1), (565, 3, .invokevirtual 73), (568, 1, .aload_n 2), (569, 3, .invokevirtual 76), (572, 3, .if_icmp .eq 594), (575, 1, .iconst 0), (576, 1, .ireturn), (577, 1, .aload_n 1), (578, 1, .aload_n 0), (579, 1, .iload_n 3), (580, 1, .iconst 1), (581, 1, .iadd), (582, 1, .iaload), (583, 3, .invokevirtual 77), (586, 1, .aload_n 2), (587, 1, .aload_n 0), (588, 1, .iload_n 3), (589, 1, .iconst 1), (590, 1, .iadd), (591, 1, .iaload), (592, 3, .invokevirtual 80), (595, 3, .if_icmp .eq 571), (598, 1, .iconst 0), (599, 1, .ireturn), (600, 1, .aload_n 1), (601, 1, .aload_n 0), (602, 1, .iload_n 3), (603, 1, .iconst 1), (604, 1, .iadd), (605, 1, .iaload), (606, 1, .aload_n 0), (607, 1, .iload_n 3), (608, 1, .iconst 2), (609, 1, .iadd), (610, 1, .iaload), (611, 3, .invokevirtual 81), (614, 1, .aload_n 2), (615, 1, .aload_n 0), (616, 1, .iload_n 3), (617, 1, .iconst 1), (618, 1, .iadd), (619, 1, .iaload), (620, 1, .aload_n 0), (621, 1, .iload_n 3), (622, 1, .iconst 2), (623, 1, .iadd), (624, 1, .iaload), (625, 3, .invokevirtual 84), (628, 3, .if_icmp .eq 538), (631, 1, .iconst 0), (632, 1, .ireturn), (633, 1, .aload_n 1), (634, 1, .aload_n 0), (635, 1, .iload_n 3), (636, 1, .iconst 1), (637, 1, .iadd), (638, 1, .iaload), (639, 1, .aload_n 0), (640, 1, .iload_n 3), (641, 1, .iconst 2), (642, 1, .iadd), (643, 1, .iaload), (644, 3, .invokevirtual 85), (647, 1, .aload_n 2), (648, 1, .aload_n 0), (649, 1, .iload_n 3), (650, 1, .iconst 1), (651, 1, .iadd), (652, 1, .iaload), (653, 1, .aload_n 0), (654, 1, .iload_n 3), (655, 1, .iconst 2), (656, 1, .iadd), (657, 1, .iaload), (658, 3, .invokevirtual 88), (661, 3, .if_icmp .eq 505), (664, 1, .iconst 0), (665, 1, .ireturn), (666, 1, .aload_n 1), (667, 1, .aload_n 0), (668, 1, .iload_n 3), (669, 1, .iconst 1), (670, 1, .iadd), (671, 1, .iaload), (672, 1, .aload_n 0), (673, 1, .iload_n 3), (674, 1, .iconst 2), (675, 1, .iadd), (676, 1, .iaload), (677, 3, .invokevirtual 89), (680, 1, .aload_n 2), (681, 1, .aload_n 0), (682, 1, .iload_n 3), (683, 1, .iconst 1), (684, 1, .iadd), (685, 1, .iaload), (686, 1, .aload_n 0), (687, 1, .iload_n 3), (688, 1, .iconst 2), (689, 1, .iadd), (690, 1, .iaload), (691, 3, .invokevirtual 92), (694, 3, .if_icmp .eq 472), (697, 1, .iconst 0), (698, 1, .ireturn), (699, 1, .aload_n 1), (700, 3, .invokevirtual 93), (703, 1, .aload_n 2), (704, 3, .invokevirtual 96), (707, 3, .if_icmp .eq 459), (710, 1, .iconst 0), (711, 1, .ireturn), (712, 1, .aload_n 1), (713, 1, .aload_n 0), (714, 1, .iload_n 3), (715, 1, .iconst 1), (716, 1, .iadd), (717, 1, .iaload), (718, 1, .aload_n 0), (719, 1, .iload_n 3), (720, 1, .iconst 2), (721, 1, .iadd), (722, 1, .iaload), (723, 3, .invokevirtual 97), (726, 1, .aload_n 2), (727, 1, .aload_n 0), (728, 1, .iload_n 3), (729, 1, .iconst 1), (730, 1, .iadd), (731, 1, .iaload), (732, 1, .aload_n 0), (733, 1, .iload_n 3), (734, 1, .iconst 2), (735, 1, .iadd), (736, 1, .iaload), (737, 3, .invokevirtual 100), (740, 3, .if_icmp .eq 426), (743, 1, .iconst 0), (744, 1, .ireturn), (745, 1, .aload_n 1), (746, 1, .aload_n 0), (747, 1, .iload_n 3), (748, 1, .iconst 1), (749, 1, .iadd), (750, 1, .iaload), (751, 1, .aload_n 0), (752, 1, .iload_n 3), (753, 1, .iconst 2), (754, 1, .iadd), (755, 1, .iaload), (756, 3, .invokevirtual 101), (759, 1, .aload_n 2), (760, 1, .aload_n 0), (761, 1, .iload_n 3), (762, 1, .iconst 1), (763, 1, .iadd), (764, 1, .iaload), (765, 1, .aload_n 0), (766, 1, .iload_n 3), (767, 1, .iconst 2), (768, 1, .iadd), (769, 1, .iaload), (770, 3, .invokevirtual 104), (773, 3, .if_icmp .eq 393), (776, 1, .iconst 0), (777, 1, .ireturn), (778, 1, .aload_n 1), (779, 1, .aload_n 0), (780, 1, .iload_n 3), (781, 1, .iconst 1), (782, 1, .iadd), (783, 1, .iaload), (784, 1, .aload_n 0), (785, 1, .iload_n 3), (786, 1, .iconst 2), (787, 1, .iadd), (788, 1, .iaload), (789, 1, .aload_n 0), (790, 1, .iload_n 3), (791, 1, .iconst 3), (792, 1, .iadd), (793, 1, .iaload), (794, 1, .aload_n 0), (795, 1, .iload_n 3), (796, 1, .iconst 4), (797, 1, .iadd), (798, 1, .iaload), (799, 3, .invokevirtual 105), (802, 1, .aload_n 2), (803, 1, .aload_n 0), (804, 1, .iload_n 3), (805, 1, .iconst 1), (806, 1, .iadd), (807, 1, .iaload), (808, 1, .aload_n 0), (809, 1, .iload_n 3), (810, 1, .iconst 2), (811, 1, .iadd), (812, 1, .iaload), (813, 1, .aload_n 0), (814, 1, .iload_n 3), (815, 1, .iconst 3), (816, 1, .iadd), (817, 1, .iaload), (818, 1, .aload_n 0), (819, 1, .iload_n 3), (820, 1, .iconst 4), (821, 1, .iadd), (822, 1, .iaload), (823, 3, .invokevirtual 108), (826, 3, .if_icmp .eq 340), (829, 1, .iconst 0), (830, 1, .ireturn), (831, 1, .aload_n 1), (832, 1, .aload_n 0), (833, 1, .iload_n 3), (834, 1, .iconst 1), (835, 1, .iadd), (836, 1, .iaload), (837, 3, .invokevirtual 109), (840, 1, .aload_n 2), (841, 1, .aload_n 0), (842, 1, .iload_n 3), (843, 1, .iconst 1), (844, 1, .iadd), (845, 1, .iaload), (846, 3, .invokevirtual 112), (849, 3, .if_icmp .eq 317), (852, 1, .iconst 0), (853, 1, .ireturn), (854, 1, .aload_n 1), (855, 1, .aload_n 0), (856, 1, .iload_n 3), (857, 1, .iconst 1), (858, 1, .iadd), (859, 1, .iaload), (860, 3, .invokevirtual 113), (863, 1, .aload_n 2), (864, 1, .aload_n 0), (865, 1, .iload_n 3), (866, 1, .iconst 1), (867, 1, .iadd), (868, 1, .iaload), (869, 3, .invokevirtual 116), (872, 3, .if_icmp .eq 294), (875, 1, .iconst 0), (876, 1, .ireturn), (877, 1, .aload_n 1), (878, 3, .invokevirtual 117), (881, 1, .aload_n 2), (882, 3, .invokevirtual 120), (885, 3, .if_icmp .eq 281), (888, 1, .iconst 0), (889, 1, .ireturn), (890, 1, .aload_n 1), (891, 1, .aload_n 0), (892, 1, .iload_n 3), (893, 1, .iconst 1), (894, 1, .iadd), (895, 1, .iaload), (896, 3, .invokevirtual 121), (899, 1, .aload_n 2), (900, 1, .aload_n 0), (901, 1, .iload_n 3), (902, 1, .iconst 1), (903, 1, .iadd), (904, 1, .iaload), (905, 3, .invokevirtual 124), (908, 3, .if_icmp .eq 258), (911, 1, .iconst 0), (912, 1, .ireturn), (913, 1, .aload_n 1), (914, 1, .aload_n 0), (915, 1, .iload_n 3), (916, 1, .iconst 1), (917, 1, .iadd), (918, 1, .iaload), (919, 3, .invokevirtual 125), (922, 1, .aload_n 2), (923, 1, .aload_n 0), (924, 1, .iload_n 3), (925, 1, .iconst 1), (926, 1, .iadd), (927, 1, .iaload), (928, 3, .invokevirtual 128), (931, 3, .if_icmp .eq 235), (934, 1, .iconst 0), (935, 1, .ireturn), (936, 1, .aload_n 1), (937, 3, .invokevirtual 129), (940, 1, .aload_n 2), (941, 3, .invokevirtual 132), (944, 3, .if_icmp .eq 222), (947, 1, .iconst 0), (948, 1, .ireturn), (949, 1, .aload_n 1), (950, 3, .invokevirtual 133), (953, 1, .aload_n 2), (954, 3, .invokevirtual 136), (957, 3, .if_icmp .eq 209), (960, 1, .iconst 0), (961, 1, .ireturn), (962, 1, .aload_n 1), (963, 1, .aload_n 0), (964, 1, .iload_n 3), (965, 1, .iconst 1), (966, 1, .iadd), (967, 1, .iaload), (968, 3, .invokevirtual 137), (971, 1, .aload_n 2), (972, 1, .aload_n 0), (973, 1, .iload_n 3), (974, 1, .iconst 1), (975, 1, .iadd), (976, 1, .iaload), (977, 3, .invokevirtual 140), (980, 3, .if_icmp .eq 186), (983, 1, .iconst 0), (984, 1, .ireturn), (985, 1, .aload_n 1), (986, 1, .aload_n 0), (987, 1, .iload_n 3), (988, 1, .iconst 1), (989, 1, .iadd), (990, 1, .iaload), (991, 3, .invokevirtual 141), (994, 1, .aload_n 2), (995, 1, .aload_n 0), (996, 1, .iload_n 3), (997, 1, .iconst 1), (998, 1, .iadd), (999, 1, .iaload), (1000, 3, .invokevirtual 144), (1003, 3, .if_icmp .eq 163), (1006, 1, .iconst 0), (1007, 1, .ireturn), (1008, 1, .aload_n 1), (1009, 1, .aload_n 0), (1010, 1, .iload_n 3), (1011, 1, .iconst 1), (1012, 1, .iadd), (1013, 1, .iaload), (1014, 3, .invokevirtual 145), (1017, 1, .aload_n 2), (1018, 1, .aload_n 0), (1019, 1, .iload_n 3), (1020, 1, .iconst 1), (1021, 1, .iadd), (1022, 1, .iaload), (1023, 3, .invokevirtual 148), (1026, 3, .if_icmp .eq 140), (1029, 1, .iconst 0), (1030, 1, .ireturn), (1031, 1, .aload_n 1), (1032, 1, .aload_n 0), (1033, 1, .iload_n 3), (1034, 1, .iconst 1), (1035, 1, .iadd), (1036, 1, .iaload), (1037, 1, .aload_n 0), (1038, 1, .iload_n 3), (1039, 1, .iconst 2), (1040, 1, .iadd), (1041, 1, .iaload), (1042, 3, .invokevirtual 149), (1045, 1, .aload_n 2), (1046, 1, .aload_n 0), (1047, 1, .iload_n 3), (1048, 1, .iconst 1), (1049, 1, .iadd), (1050, 1, .iaload), (1051, 1, .aload_n 0), (1052, 1, .iload_n 3), (1053, 1, .iconst 2), (1054, 1, .iadd), (1055, 1, .iaload), (1056, 3, .invokevirtual 152), (1059, 3, .if_icmp .eq 107), (1062, 1, .iconst 0), (1063, 1, .ireturn), (1064, 1, .aload_n 1), (1065, 3, .invokevirtual 153), (1068, 1, .aload_n 2), (1069, 3, .invokevirtual 156), (1072, 3, .if_icmp .eq 94), (1075, 1, .iconst 0), (1076, 1, .ireturn), (1077, 1, .aload_n 1), (1078, 1, .aload_n 0), (1079, 1, .iload_n 3), (1080, 1, .iconst 1), (1081, 1, .iadd), (1082, 1, .iaload), (1083, 3, .invokevirtual 157), (1086, 1, .aload_n 2), (1087, 1, .aload_n 0), (1088, 1, .iload_n 3), (1089, 1, .iconst 1), (1090, 1, .iadd), (1091, 1, .iaload), (1092, 3, .invokevirtual 160), (1095, 3, .if_icmp .eq 71), (1098, 1, .iconst 0), (1099, 1, .ireturn), (1100, 1, .aload_n 1), (1101, 3, .invokevirtual 161), (1104, 1, .aload_n 2), (1105, 3, .invokevirtual 164), (1108, 3, .if_icmp .eq 58), (1111, 1, .iconst 0), (1112, 1, .ireturn), (1113, 1, .aload_n 1), (1114, 3, .invokevirtual 165), (1117, 1, .aload_n 2), (1118, 3, .invokevirtual 168), (1121, 3, .if_icmp .eq 45), (1124, 1, .iconst 0), (1125, 1, .ireturn), (1126, 1, .aload_n 1), (1127, 3, .invokevirtual 169), (1130, 1, .aload_n 2), (1131, 3, .invokevirtual 173), (1134, 1, .lcmp), (1135, 3, .ifCond .eq 31), (1138, 1, .iconst 0), (1139, 1, .ireturn), (1140, 1, .aload_n 1), (1141, 3, .invokevirtual 174), (1144, 1, .aload_n 2), (1145, 3, .invokevirtual 177), (1148, 3, .if_icmp .eq 18), (1151, 1, .iconst 0), (1152, 1, .ireturn), (1153, 1, .aload_n 1), (1154, 3, .invokevirtual 178), (1157, 1, .aload_n 2), (1158, 3, .invokevirtual 181), (1161, 3, .if_icmp .eq 5), (1164, 1, .iconst 0), (1165, 1, .ireturn), (1166, 3, .iinc 3 5), (1169, 3, .goto (-1151)), (1172, 1, .iconst 1), (1173, 1, .ireturn)]
def zCodes : List (List (Nat × Nat × Instr)) := [zc_0, zc_1, zc_2, zc_3, zc_4, zc_5, zc_6, zc_7, zc_8, zc_9, zc_10, zc_11, zc_12, zc_13, zc_14, zc_15, zc_16, zc_17, zc_18, zc_19, zc_20, zc_21, zc_22, zc_23, zc_24, zc_25, zc_26, zc_27, zc_28, zc_29, zc_30, zc_31, zc_32, zc_33, zc_34, zc_35, zc_36, zc_37, zc_38, zc_39, zc_40, zc_41, zc_42, zc_43, zc_44, zc_45, zc_46, zc_47, zc_48, zc_49, zc_50, zc_51, zc_52, zc_53, zc_54, zc_55, zc_56, zc_57, zc_58, zc_59, zc_60, zc_61, zc_62, zc_63, zc_64, zc_65, zc_66, zc_67, zc_68, zc_69, zc_70, zc_71, zc_72, zc_73, zc_74, zc_75, zc_76, zc_77, zc_78, zc_79, zc_80, zc_81, zc_82, zc_83, zc_84, zc_85, zc_86, zc_87, zc_88, zc_89, zc_90, zc_91, zc_92, zc_93, zc_94, zc_95, zc_96, zc_97, zc_98, zc_99, zc_100, zc_101, zc_102, zc_103, zc_104, zc_105, zc_106, zc_107, zc_108, zc_109, zc_110, zc_111, zc_112, zc_113, zc_114, zc_115, zc_116, zc_117, zc_118, zc_119, zc_120, zc_121, zc_122, zc_123, zc_124, zc_125, zc_126, zc_127, zc_128, zc_129, zc_130, zc_131, zc_132, zc_133, zc_134, zc_135, zc_136, zc_137, zc_138, zc_139, zc_140, zc_141, zc_142, zc_143, zc_144, zc_145, zc_146, zc_147, zc_148, zc_149, zc_150, zc_151, zc_152, zc_153, zc_154, zc_155, zc_156, zc_157, zc_158, zc_159, zc_160, zc_161, zc_162, zc_163, zc_164, zc_165, zc_166, zc_167, zc_168, zc_169, zc_170, zc_171, zc_172, zc_173, zc_174, zc_175, zc_176, zc_177, zc_178, zc_179, zc_180, zc_181, zc_182, zc_183, zc_184, zc_185, zc_186, zc_187, zc_188, zc_189, zc_190, zc_191, zc_192, zc_193, zc_194, zc_195, zc_196, zc_197, zc_198, zc_199, zc_200, zc_201, zc_202, zc_203, zc_204, zc_205, zc_206, zc_207, zc_208, zc_209, zc_210, zc_211, zc_212, zc_213, zc_214, zc_215, zc_216, zc_217, zc_218, zc_219, zc_220, zc_221, zc_222, zc_223, zc_224, zc_225, zc_226, zc_227, zc_228, zc_229, zc_230, zc_231, zc_232, zc_233, zc_234, zc_235, zc_236, zc_237, zc_238, zc_239, zc_240, zc_241, zc_242, zc_243, zc_244, zc_245, zc_246, zc_247, zc_248, zc_249, zc_250, zc_251, zc_252, zc_253, zc_254, zc_255]
/-- a method: its class, name, bytes, locals, answer, arguments -/
def zMs : List (Nat × MethodName × ByteArray × Nat × Option FieldType × Nat) := [(0, ⟨"DungeonBuilder$Architect", "<init>", "()V"⟩, prog_2_method_1_code, 1, none, 1), (0, ⟨"DungeonBuilder$Architect", "raise", "(LDungeonBuilder$Dungeon;II)V"⟩, prog_2_method_2_code, 5, none, 4), (0, ⟨"DungeonBuilder$Architect", "draw", "(I)I"⟩, prog_2_method_3_code, 2, some .int, 2), (0, ⟨"DungeonBuilder$Architect", "addPart", "(IIII)I"⟩, prog_2_method_4_code, 5, some .int, 5), (0, ⟨"DungeonBuilder$Architect", "partition", "(LDungeonBuilder$Architect;II)V"⟩, prog_2_method_5_code, 4, none, 3), (0, ⟨"DungeonBuilder$Architect", "noteUncut", "(I)V"⟩, prog_2_method_6_code, 2, none, 2), (0, ⟨"DungeonBuilder$Architect", "noteCut", "(I)V"⟩, prog_2_method_7_code, 2, none, 2), (0, ⟨"DungeonBuilder$Architect", "cut", "(I)I"⟩, prog_2_method_8_code, 10, some .int, 2), (0, ⟨"DungeonBuilder$Architect", "drawRoom", "(LDungeonBuilder$Dungeon;I)V"⟩, prog_2_method_9_code, 7, none, 3), (0, ⟨"DungeonBuilder$Architect", "join", "(LDungeonBuilder$Dungeon;II)V"⟩, prog_2_method_10_code, 9, none, 4), (1, ⟨"DungeonBuilder$Dungeon", "<init>", "()V"⟩, prog_3_method_1_code, 1, none, 1), (1, ⟨"DungeonBuilder$Dungeon", "become", "(LDungeonBuilder$Dungeon;)V"⟩, prog_3_method_2_code, 3, none, 2), (1, ⟨"DungeonBuilder$Dungeon", "takeRoom", "(ILDungeonBuilder$Dungeon;I)V"⟩, prog_3_method_3_code, 4, none, 4), (1, ⟨"DungeonBuilder$Dungeon", "takeCorridor", "(ILDungeonBuilder$Dungeon;I)V"⟩, prog_3_method_4_code, 4, none, 4), (1, ⟨"DungeonBuilder$Dungeon", "clear", "()V"⟩, prog_3_method_5_code, 1, none, 1), (1, ⟨"DungeonBuilder$Dungeon", "hasRoom", "(I)Z"⟩, prog_3_method_6_code, 2, some .boolean, 2), (1, ⟨"DungeonBuilder$Dungeon", "hasCorridor", "(I)Z"⟩, prog_3_method_7_code, 2, some .boolean, 2), (1, ⟨"DungeonBuilder$Dungeon", "insertRoom", "(IIII)I"⟩, prog_3_method_8_code, 5, some .int, 5), (1, ⟨"DungeonBuilder$Dungeon", "liesInMap", "(IIII)Z"⟩, prog_3_method_9_code, 5, some .boolean, 4), (1, ⟨"DungeonBuilder$Dungeon", "meetsRoom", "(IIII)Z"⟩, prog_3_method_10_code, 8, some .boolean, 5), (1, ⟨"DungeonBuilder$Dungeon", "insertCorridor", "(II)I"⟩, prog_3_method_11_code, 3, some .int, 3), (1, ⟨"DungeonBuilder$Dungeon", "insertLoop", "()I"⟩, prog_3_method_12_code, 6, some .int, 1), (1, ⟨"DungeonBuilder$Dungeon", "changeLock", "(II)I"⟩, prog_3_method_13_code, 4, some .int, 3), (1, ⟨"DungeonBuilder$Dungeon", "changeKey", "(II)I"⟩, prog_3_method_14_code, 4, some .int, 3), (1, ⟨"DungeonBuilder$Dungeon", "moveEntrance", "(I)I"⟩, prog_3_method_15_code, 3, some .int, 2), (1, ⟨"DungeonBuilder$Dungeon", "dropRoom", "(I)I"⟩, prog_3_method_16_code, 3, some .int, 2), (1, ⟨"DungeonBuilder$Dungeon", "dropCorridorsOf", "(I)V"⟩, prog_3_method_17_code, 4, none, 2), (1, ⟨"DungeonBuilder$Dungeon", "renumbered", "(II)I"⟩, prog_3_method_18_code, 2, some .int, 2), (1, ⟨"DungeonBuilder$Dungeon", "dropCorridor", "(I)I"⟩, prog_3_method_19_code, 3, some .int, 2), (1, ⟨"DungeonBuilder$Dungeon", "ends", "(II)Z"⟩, prog_3_method_20_code, 3, some .boolean, 3), (1, ⟨"DungeonBuilder$Dungeon", "corridorBetween", "(II)I"⟩, prog_3_method_21_code, 4, some .int, 3), (1, ⟨"DungeonBuilder$Dungeon", "corridorsOf", "(I)I"⟩, prog_3_method_22_code, 4, some .int, 2), (1, ⟨"DungeonBuilder$Dungeon", "centerColumn", "(I)I"⟩, prog_3_method_23_code, 2, some .int, 2), (1, ⟨"DungeonBuilder$Dungeon", "centerRow", "(I)I"⟩, prog_3_method_24_code, 2, some .int, 2), (1, ⟨"DungeonBuilder$Dungeon", "distance", "(II)I"⟩, prog_3_method_25_code, 3, some .int, 3), (1, ⟨"DungeonBuilder$Dungeon", "opens", "(II)Z"⟩, prog_3_method_26_code, 3, some .boolean, 3), (1, ⟨"DungeonBuilder$Dungeon", "keyBit", "(I)I"⟩, prog_3_method_27_code, 2, some .int, 2), (1, ⟨"DungeonBuilder$Dungeon", "locks", "()I"⟩, prog_3_method_28_code, 3, some .int, 1), (1, ⟨"DungeonBuilder$Dungeon", "keys", "()I"⟩, prog_3_method_29_code, 3, some .int, 1), (1, ⟨"DungeonBuilder$Dungeon", "cellsOf", "(I)I"⟩, prog_3_method_30_code, 2, some .int, 2), (1, ⟨"DungeonBuilder$Dungeon", "roomCells", "()I"⟩, prog_3_method_31_code, 3, some .int, 1), (1, ⟨"DungeonBuilder$Dungeon", "deadEnds", "()I"⟩, prog_3_method_32_code, 3, some .int, 1), (2, ⟨"DungeonBuilder$Explorer", "<init>", "()V"⟩, prog_4_method_1_code, 1, none, 1), (2, ⟨"DungeonBuilder$Explorer", "survey", "(LDungeonBuilder$Dungeon;)V"⟩, prog_4_method_2_code, 5, none, 2), (2, ⟨"DungeonBuilder$Explorer", "rate", "(LDungeonBuilder$Dungeon;II)I"⟩, prog_4_method_3_code, 3, some .int, 3), (2, ⟨"DungeonBuilder$Explorer", "easiest", "(LDungeonBuilder$Dungeon;I)I"⟩, prog_4_method_4_code, 6, some .int, 3), (2, ⟨"DungeonBuilder$Explorer", "bordering", "(LDungeonBuilder$Dungeon;I)I"⟩, prog_4_method_5_code, 6, some .int, 2), (2, ⟨"DungeonBuilder$Explorer", "hasVisit", "(I)Z"⟩, prog_4_method_6_code, 2, some .boolean, 2), (2, ⟨"DungeonBuilder$Explorer", "positionOf", "(I)I"⟩, prog_4_method_7_code, 3, some .int, 2), (2, ⟨"DungeonBuilder$Explorer", "rise", "(I)I"⟩, prog_4_method_8_code, 2, some .int, 2), (2, ⟨"DungeonBuilder$Explorer", "wayBack", "(LDungeonBuilder$Dungeon;)I"⟩, prog_4_method_9_code, 4, some .int, 2), (3, ⟨"DungeonBuilder$FloorPlan", "<init>", "()V"⟩, prog_5_method_1_code, 1, none, 1), (3, ⟨"DungeonBuilder$FloorPlan", "draw", "(LDungeonBuilder$Dungeon;)V"⟩, prog_5_method_2_code, 3, none, 2), (3, ⟨"DungeonBuilder$FloorPlan", "drawRoom", "(LDungeonBuilder$Dungeon;I)V"⟩, prog_5_method_3_code, 6, none, 3), (3, ⟨"DungeonBuilder$FloorPlan", "drawCorridor", "(LDungeonBuilder$Dungeon;I)V"⟩, prog_5_method_4_code, 6, none, 3), (3, ⟨"DungeonBuilder$FloorPlan", "wayCell", "(LDungeonBuilder$Dungeon;II)I"⟩, prog_5_method_5_code, 9, some .int, 3), (3, ⟨"DungeonBuilder$FloorPlan", "cellsOf", "(LDungeonBuilder$Dungeon;I)I"⟩, prog_5_method_6_code, 7, some .int, 3), (3, ⟨"DungeonBuilder$FloorPlan", "corridorCells", "()I"⟩, prog_5_method_7_code, 3, some .int, 1), (3, ⟨"DungeonBuilder$FloorPlan", "isFloor", "(I)Z"⟩, prog_5_method_8_code, 2, some .boolean, 2), (3, ⟨"DungeonBuilder$FloorPlan", "contentOf", "(I)I"⟩, prog_5_method_9_code, 2, some .int, 2), (3, ⟨"DungeonBuilder$FloorPlan", "signOf", "(LDungeonBuilder$Dungeon;I)I"⟩, prog_5_method_10_code, 3, some .int, 3), (3, ⟨"DungeonBuilder$FloorPlan", "signInRoom", "(LDungeonBuilder$Dungeon;II)I"⟩, prog_5_method_11_code, 3, some .int, 3), (3, ⟨"DungeonBuilder$FloorPlan", "stepsBetween", "(II)I"⟩, prog_5_method_12_code, 7, some .int, 3), (3, ⟨"DungeonBuilder$FloorPlan", "enter", "(II)V"⟩, prog_5_method_13_code, 3, none, 3), (4, ⟨"DungeonBuilder$History", "<init>", "()V"⟩, prog_6_method_1_code, 2, none, 1), (4, ⟨"DungeonBuilder$History", "prepare", "(LDungeonBuilder$Dungeon;)V"⟩, prog_6_method_2_code, 2, none, 2), (4, ⟨"DungeonBuilder$History", "commit", "()V"⟩, prog_6_method_3_code, 1, none, 1), (4, ⟨"DungeonBuilder$History", "rollBack", "(LDungeonBuilder$Dungeon;)V"⟩, prog_6_method_4_code, 2, none, 2), (4, ⟨"DungeonBuilder$History", "stepBack", "(LDungeonBuilder$Dungeon;)I"⟩, prog_6_method_5_code, 2, some .int, 2), (4, ⟨"DungeonBuilder$History", "forget", "()V"⟩, prog_6_method_6_code, 1, none, 1), (5, ⟨"DungeonBuilder$Locksmith", "<init>", "()V"⟩, prog_7_method_1_code, 1, none, 1), (5, ⟨"DungeonBuilder$Locksmith", "fit", "(LDungeonBuilder$Dungeon;)I"⟩, prog_7_method_2_code, 5, some .int, 2), (5, ⟨"DungeonBuilder$Locksmith", "bestCorridor", "(LDungeonBuilder$Dungeon;)I"⟩, prog_7_method_3_code, 6, some .int, 1), (5, ⟨"DungeonBuilder$Locksmith", "freeColor", "(LDungeonBuilder$Dungeon;)I"⟩, prog_7_method_4_code, 3, some .int, 1), (5, ⟨"DungeonBuilder$Locksmith", "bestRoom", "(LDungeonBuilder$Dungeon;I)I"⟩, prog_7_method_5_code, 7, some .int, 3), (6, ⟨"DungeonBuilder$Reach", "spread", "(LDungeonBuilder$Dungeon;IIII)I"⟩, prog_8_method_2_code, 10, some .int, 5), (6, ⟨"DungeonBuilder$Reach", "visitable", "(LDungeonBuilder$Dungeon;II)I"⟩, prog_8_method_3_code, 3, some .int, 3), (6, ⟨"DungeonBuilder$Reach", "entranceSet", "(LDungeonBuilder$Dungeon;)I"⟩, prog_8_method_4_code, 1, some .int, 1), (6, ⟨"DungeonBuilder$Reach", "keysIn", "(LDungeonBuilder$Dungeon;I)I"⟩, prog_8_method_5_code, 4, some .int, 2), (6, ⟨"DungeonBuilder$Reach", "farSide", "(LDungeonBuilder$Dungeon;I)I"⟩, prog_8_method_6_code, 4, some .int, 2), (6, ⟨"DungeonBuilder$Reach", "groups", "(LDungeonBuilder$Dungeon;I)I"⟩, prog_8_method_7_code, 5, some .int, 2), (6, ⟨"DungeonBuilder$Reach", "bridges", "(LDungeonBuilder$Dungeon;)I"⟩, prog_8_method_8_code, 4, some .int, 1), (6, ⟨"DungeonBuilder$Reach", "measure", "(LDungeonBuilder$Dungeon;I[I)V"⟩, prog_8_method_9_code, 5, none, 3), (6, ⟨"DungeonBuilder$Reach", "extend", "([IIII)V"⟩, prog_8_method_10_code, 4, none, 4), (7, ⟨"DungeonBuilder$Script", "<init>", "()V"⟩, prog_9_method_1_code, 1, none, 1), (7, ⟨"DungeonBuilder$Script", "take", "(I)I"⟩, prog_9_method_2_code, 5, some .int, 2), (7, ⟨"DungeonBuilder$Script", "put", "(I)V"⟩, prog_9_method_3_code, 2, none, 2), (7, ⟨"DungeonBuilder$Script", "parse", "()Z"⟩, prog_9_method_4_code, 2, some .boolean, 1), (7, ⟨"DungeonBuilder$Script", "parseCommands", "()Z"⟩, prog_9_method_5_code, 2, some .boolean, 1), (7, ⟨"DungeonBuilder$Script", "parseCommand", "(I)Z"⟩, prog_9_method_6_code, 5, some .boolean, 2), (7, ⟨"DungeonBuilder$Script", "numbersOf", "(I)I"⟩, prog_9_method_7_code, 1, some .int, 1), (7, ⟨"DungeonBuilder$Script", "parseNumber", "()I"⟩, prog_9_method_8_code, 2, some .int, 1), (7, ⟨"DungeonBuilder$Script", "skip", "(I)Z"⟩, prog_9_method_9_code, 2, some .boolean, 2), (7, ⟨"DungeonBuilder$Script", "signAt", "(I)I"⟩, prog_9_method_10_code, 2, some .int, 2), (7, ⟨"DungeonBuilder$Script", "isDigit", "(I)Z"⟩, prog_9_method_11_code, 1, some .boolean, 1), (7, ⟨"DungeonBuilder$Script", "execute", "(LDungeonBuilder$Dungeon;)Z"⟩, prog_9_method_12_code, 4, some .boolean, 2), (7, ⟨"DungeonBuilder$Script", "executeOne", "(LDungeonBuilder$Dungeon;I[I)I"⟩, prog_9_method_13_code, 3, some .int, 3), (8, ⟨"DungeonBuilder$Walks", "<init>", "()V"⟩, prog_10_method_1_code, 1, none, 1), (8, ⟨"DungeonBuilder$Walks", "explore", "(LDungeonBuilder$Dungeon;)V"⟩, prog_10_method_2_code, 3, none, 2), (8, ⟨"DungeonBuilder$Walks", "goOn", "(LDungeonBuilder$Dungeon;I)V"⟩, prog_10_method_3_code, 5, none, 3), (8, ⟨"DungeonBuilder$Walks", "addLine", "(LDungeonBuilder$Dungeon;II)V"⟩, prog_10_method_4_code, 6, none, 4), (8, ⟨"DungeonBuilder$Walks", "lengthTo", "(I)I"⟩, prog_10_method_5_code, 2, some .int, 2), (8, ⟨"DungeonBuilder$Walks", "roomOnWay", "(II)I"⟩, prog_10_method_6_code, 5, some .int, 3), (9, ⟨"DungeonBuilder", "<init>", "()V"⟩, prog_1_method_1_code, 1, none, 1), (9, ⟨"DungeonBuilder", "addRoom", "(IIII)I"⟩, prog_1_method_2_code, 5, some .int, 5), (9, ⟨"DungeonBuilder", "addCorridor", "(II)I"⟩, prog_1_method_3_code, 3, some .int, 3), (9, ⟨"DungeonBuilder", "setLock", "(II)I"⟩, prog_1_method_4_code, 3, some .int, 3), (9, ⟨"DungeonBuilder", "setKey", "(II)I"⟩, prog_1_method_5_code, 3, some .int, 3), (9, ⟨"DungeonBuilder", "setEntrance", "(I)I"⟩, prog_1_method_6_code, 2, some .int, 2), (9, ⟨"DungeonBuilder", "removeRoom", "(I)I"⟩, prog_1_method_7_code, 2, some .int, 2), (9, ⟨"DungeonBuilder", "removeCorridor", "(I)I"⟩, prog_1_method_8_code, 2, some .int, 2), (9, ⟨"DungeonBuilder", "build", "(II)I"⟩, prog_1_method_9_code, 3, some .int, 3), (9, ⟨"DungeonBuilder", "addLoop", "()I"⟩, prog_1_method_10_code, 1, some .int, 1), (9, ⟨"DungeonBuilder", "placeLock", "()I"⟩, prog_1_method_11_code, 1, some .int, 1), (9, ⟨"DungeonBuilder", "setCurve", "(I)I"⟩, prog_1_method_12_code, 3, some .int, 2), (9, ⟨"DungeonBuilder", "append", "(I)I"⟩, prog_1_method_13_code, 2, some .int, 2), (9, ⟨"DungeonBuilder", "read", "()I"⟩, prog_1_method_14_code, 1, some .int, 1), (9, ⟨"DungeonBuilder", "faultPosition", "()I"⟩, prog_1_method_15_code, 1, some .int, 1), (9, ⟨"DungeonBuilder", "undo", "()I"⟩, prog_1_method_16_code, 1, some .int, 1), (9, ⟨"DungeonBuilder", "count", "(I)I"⟩, prog_1_method_17_code, 2, some .int, 2), (9, ⟨"DungeonBuilder", "room", "(II)I"⟩, prog_1_method_18_code, 3, some .int, 3), (9, ⟨"DungeonBuilder", "corridor", "(II)I"⟩, prog_1_method_19_code, 3, some .int, 3), (9, ⟨"DungeonBuilder", "between", "(II)I"⟩, prog_1_method_20_code, 4, some .int, 3), (9, ⟨"DungeonBuilder", "entrance", "()I"⟩, prog_1_method_21_code, 1, some .int, 1), (9, ⟨"DungeonBuilder", "cell", "(II)I"⟩, prog_1_method_22_code, 4, some .int, 3), (9, ⟨"DungeonBuilder", "sign", "(II)I"⟩, prog_1_method_23_code, 4, some .int, 3), (9, ⟨"DungeonBuilder", "steps", "(IIII)I"⟩, prog_1_method_24_code, 7, some .int, 5), (9, ⟨"DungeonBuilder", "depth", "(I)I"⟩, prog_1_method_25_code, 2, some .int, 2), (9, ⟨"DungeonBuilder", "difficulty", "(I)I"⟩, prog_1_method_26_code, 2, some .int, 2), (9, ⟨"DungeonBuilder", "visits", "()I"⟩, prog_1_method_27_code, 1, some .int, 1), (9, ⟨"DungeonBuilder", "visit", "(I)I"⟩, prog_1_method_28_code, 2, some .int, 2), (9, ⟨"DungeonBuilder", "visitedAt", "(I)I"⟩, prog_1_method_29_code, 2, some .int, 2), (9, ⟨"DungeonBuilder", "isSolvable", "()I"⟩, prog_1_method_30_code, 1, some .int, 1), (9, ⟨"DungeonBuilder", "keysFound", "()I"⟩, prog_1_method_31_code, 1, some .int, 1), (9, ⟨"DungeonBuilder", "needed", "(I)I"⟩, prog_1_method_32_code, 4, some .int, 2), (9, ⟨"DungeonBuilder", "missing", "(I)I"⟩, prog_1_method_33_code, 4, some .int, 2), (9, ⟨"DungeonBuilder", "walkLength", "(I)I"⟩, prog_1_method_34_code, 3, some .int, 2), (9, ⟨"DungeonBuilder", "walkRoom", "(II)I"⟩, prog_1_method_35_code, 4, some .int, 3), (9, ⟨"DungeonBuilder", "criticalLength", "()I"⟩, prog_1_method_36_code, 3, some .int, 1), (9, ⟨"DungeonBuilder", "tension", "(I)I"⟩, prog_1_method_37_code, 2, some .int, 2), (9, ⟨"DungeonBuilder", "drops", "()I"⟩, prog_1_method_38_code, 3, some .int, 1), (9, ⟨"DungeonBuilder", "backtracking", "()I"⟩, prog_1_method_39_code, 1, some .int, 1), (9, ⟨"DungeonBuilder", "averageBits", "()J"⟩, prog_1_method_40_code, 3, some .long, 1), (9, ⟨"DungeonBuilder", "save", "()I"⟩, prog_1_method_41_code, 1, some .int, 1), (9, ⟨"DungeonBuilder", "restore", "()I"⟩, prog_1_method_42_code, 1, some .int, 1), (9, ⟨"DungeonBuilder", "settled", "(I)I"⟩, prog_1_method_43_code, 2, some .int, 2), (9, ⟨"DungeonBuilder", "recolored", "(I)I"⟩, prog_1_method_44_code, 2, some .int, 2), (9, ⟨"DungeonBuilder", "colorOrNone", "(I)I"⟩, prog_1_method_45_code, 1, some .int, 1), (9, ⟨"DungeonBuilder", "isColorOrUnset", "(I)Z"⟩, prog_1_method_46_code, 1, some .boolean, 1), (9, ⟨"DungeonBuilder", "holds", "(II)Z"⟩, prog_1_method_47_code, 2, some .boolean, 2), (9, ⟨"DungeonBuilder", "cellAt", "(II)I"⟩, prog_1_method_48_code, 2, some .int, 2), (9, ⟨"DungeonBuilder", "bitsOf", "(D)J"⟩, prog_1_method_49_code, 7, some .long, 1), (10, ⟨"DungeonBuilderModel", "<init>", "()V"⟩, prog_12_method_1_code, 1, none, 1), (10, ⟨"DungeonBuilderModel", "in", "(III)Z"⟩, prog_12_method_2_code, 3, some .boolean, 3), (10, ⟨"DungeonBuilderModel", "isRoom", "(I)Z"⟩, prog_12_method_3_code, 2, some .boolean, 2), (10, ⟨"DungeonBuilderModel", "isCorridor", "(I)Z"⟩, prog_12_method_4_code, 2, some .boolean, 2), (10, ⟨"DungeonBuilderModel", "of", "(II)I"⟩, prog_12_method_5_code, 3, some .int, 3), (10, ⟨"DungeonBuilderModel", "way", "(II)I"⟩, prog_12_method_6_code, 3, some .int, 3), (10, ⟨"DungeonBuilderModel", "columnOf", "(I)I"⟩, prog_12_method_7_code, 2, some .int, 2), (10, ⟨"DungeonBuilderModel", "rowOf", "(I)I"⟩, prog_12_method_8_code, 2, some .int, 2), (10, ⟨"DungeonBuilderModel", "off", "(II)I"⟩, prog_12_method_9_code, 2, some .int, 2), (10, ⟨"DungeonBuilderModel", "distance", "(II)I"⟩, prog_12_method_10_code, 3, some .int, 3), (10, ⟨"DungeonBuilderModel", "remembers", "()V"⟩, prog_12_method_11_code, 2, none, 1), (10, ⟨"DungeonBuilderModel", "changes", "()V"⟩, prog_12_method_12_code, 2, none, 1), (10, ⟨"DungeonBuilderModel", "kept", "(I)I"⟩, prog_12_method_13_code, 2, some .int, 2), (10, ⟨"DungeonBuilderModel", "roomAt", "(II)I"⟩, prog_12_method_14_code, 4, some .int, 3), (10, ⟨"DungeonBuilderModel", "addsRoom", "(IIII)I"⟩, prog_12_method_15_code, 7, some .int, 5), (10, ⟨"DungeonBuilderModel", "wayBetween", "(II)I"⟩, prog_12_method_16_code, 4, some .int, 3), (10, ⟨"DungeonBuilderModel", "addsCorridor", "(II)I"⟩, prog_12_method_17_code, 4, some .int, 3), (10, ⟨"DungeonBuilderModel", "told", "(I)I"⟩, prog_12_method_18_code, 1, some .int, 1), (10, ⟨"DungeonBuilderModel", "setsLock", "(II)I"⟩, prog_12_method_19_code, 4, some .int, 3), (10, ⟨"DungeonBuilderModel", "setsKey", "(II)I"⟩, prog_12_method_20_code, 4, some .int, 3), (10, ⟨"DungeonBuilderModel", "setsEntrance", "(I)I"⟩, prog_12_method_21_code, 3, some .int, 2), (10, ⟨"DungeonBuilderModel", "cutsCorridor", "(I)V"⟩, prog_12_method_22_code, 3, none, 2), (10, ⟨"DungeonBuilderModel", "addRoom", "(IIII)I"⟩, prog_12_method_23_code, 5, some .int, 5), (10, ⟨"DungeonBuilderModel", "addCorridor", "(II)I"⟩, prog_12_method_24_code, 3, some .int, 3), (10, ⟨"DungeonBuilderModel", "setLock", "(II)I"⟩, prog_12_method_25_code, 3, some .int, 3), (10, ⟨"DungeonBuilderModel", "setKey", "(II)I"⟩, prog_12_method_26_code, 3, some .int, 3), (10, ⟨"DungeonBuilderModel", "setEntrance", "(I)I"⟩, prog_12_method_27_code, 2, some .int, 2), (10, ⟨"DungeonBuilderModel", "removeRoom", "(I)I"⟩, prog_12_method_28_code, 4, some .int, 2), (10, ⟨"DungeonBuilderModel", "removeCorridor", "(I)I"⟩, prog_12_method_29_code, 2, some .int, 2), (10, ⟨"DungeonBuilderModel", "drawn", "(I)I"⟩, prog_12_method_30_code, 2, some .int, 2), (10, ⟨"DungeonBuilderModel", "parts", "(LDungeonBuilderModel;IIIII)V"⟩, prog_12_method_31_code, 11, none, 6), (10, ⟨"DungeonBuilderModel", "least", "(II)I"⟩, prog_12_method_32_code, 2, some .int, 2), (10, ⟨"DungeonBuilderModel", "joins", "(III)V"⟩, prog_12_method_33_code, 8, none, 4), (10, ⟨"DungeonBuilderModel", "build", "(II)I"⟩, prog_12_method_34_code, 10, some .int, 3), (10, ⟨"DungeonBuilderModel", "addLoop", "()I"⟩, prog_12_method_35_code, 5, some .int, 1), (10, ⟨"DungeonBuilderModel", "tellDepths", "(II)V"⟩, prog_12_method_36_code, 7, none, 3), (10, ⟨"DungeonBuilderModel", "depthOf", "(I)I"⟩, prog_12_method_37_code, 2, some .int, 2), (10, ⟨"DungeonBuilderModel", "degreeOf", "(I)I"⟩, prog_12_method_38_code, 4, some .int, 2), (10, ⟨"DungeonBuilderModel", "difficultyOf", "(I)I"⟩, prog_12_method_39_code, 3, some .int, 2), (10, ⟨"DungeonBuilderModel", "canGo", "(III)Z"⟩, prog_12_method_40_code, 10, some .boolean, 4), (10, ⟨"DungeonBuilderModel", "goesTo", "(II)V"⟩, prog_12_method_41_code, 4, none, 3), (10, ⟨"DungeonBuilderModel", "tellVisit", "(III)V"⟩, prog_12_method_42_code, 6, none, 4), (10, ⟨"DungeonBuilderModel", "tell", "()V"⟩, prog_12_method_43_code, 1, none, 1), (10, ⟨"DungeonBuilderModel", "farSide", "(I)I"⟩, prog_12_method_44_code, 4, some .int, 2), (10, ⟨"DungeonBuilderModel", "colorsUsed", "()I"⟩, prog_12_method_45_code, 3, some .int, 1), (10, ⟨"DungeonBuilderModel", "placeLock", "()I"⟩, prog_12_method_46_code, 5, some .int, 1), (10, ⟨"DungeonBuilderModel", "setCurve", "(I)I"⟩, prog_12_method_47_code, 3, some .int, 2), (10, ⟨"DungeonBuilderModel", "append", "(I)I"⟩, prog_12_method_48_code, 5, some .int, 2), (10, ⟨"DungeonBuilderModel", "eats", "(I)Z"⟩, prog_12_method_49_code, 2, some .boolean, 2), (10, ⟨"DungeonBuilderModel", "partsOf", "(I)I"⟩, prog_12_method_50_code, 1, some .int, 1), (10, ⟨"DungeonBuilderModel", "readsNumber", "(I)Z"⟩, prog_12_method_51_code, 3, some .boolean, 2), (10, ⟨"DungeonBuilderModel", "readsCommand", "()Z"⟩, prog_12_method_52_code, 3, some .boolean, 1), (10, ⟨"DungeonBuilderModel", "does", "()I"⟩, prog_12_method_53_code, 1, some .int, 1), (10, ⟨"DungeonBuilderModel", "read", "()I"⟩, prog_12_method_54_code, 6, some .int, 1), (10, ⟨"DungeonBuilderModel", "faultPosition", "()I"⟩, prog_12_method_55_code, 1, some .int, 1), (10, ⟨"DungeonBuilderModel", "undo", "()I"⟩, prog_12_method_56_code, 2, some .int, 1), (10, ⟨"DungeonBuilderModel", "isCell", "(II)Z"⟩, prog_12_method_57_code, 2, some .boolean, 2), (10, ⟨"DungeonBuilderModel", "isFrom", "(III)Z"⟩, prog_12_method_58_code, 3, some .boolean, 3), (10, ⟨"DungeonBuilderModel", "has", "(III)Z"⟩, prog_12_method_59_code, 8, some .boolean, 4), (10, ⟨"DungeonBuilderModel", "corridorAt", "(IIZ)I"⟩, prog_12_method_60_code, 5, some .int, 4), (10, ⟨"DungeonBuilderModel", "cellsOf", "(I)I"⟩, prog_12_method_61_code, 4, some .int, 2), (10, ⟨"DungeonBuilderModel", "cell", "(II)I"⟩, prog_12_method_62_code, 5, some .int, 3), (10, ⟨"DungeonBuilderModel", "sign", "(II)I"⟩, prog_12_method_63_code, 5, some .int, 3), (10, ⟨"DungeonBuilderModel", "isOpen", "(I)Z"⟩, prog_12_method_64_code, 2, some .boolean, 2), (10, ⟨"DungeonBuilderModel", "around", "(I)I"⟩, prog_12_method_65_code, 7, some .int, 2), (10, ⟨"DungeonBuilderModel", "steps", "(IIII)I"⟩, prog_12_method_66_code, 8, some .int, 5), (10, ⟨"DungeonBuilderModel", "groups", "(I)I"⟩, prog_12_method_67_code, 6, some .int, 2), (10, ⟨"DungeonBuilderModel", "count", "(I)I"⟩, prog_12_method_68_code, 4, some .int, 2), (10, ⟨"DungeonBuilderModel", "room", "(II)I"⟩, prog_12_method_69_code, 3, some .int, 3), (10, ⟨"DungeonBuilderModel", "corridor", "(II)I"⟩, prog_12_method_70_code, 3, some .int, 3), (10, ⟨"DungeonBuilderModel", "between", "(II)I"⟩, prog_12_method_71_code, 3, some .int, 3), (10, ⟨"DungeonBuilderModel", "entrance", "()I"⟩, prog_12_method_72_code, 1, some .int, 1), (10, ⟨"DungeonBuilderModel", "depth", "(I)I"⟩, prog_12_method_73_code, 2, some .int, 2), (10, ⟨"DungeonBuilderModel", "difficulty", "(I)I"⟩, prog_12_method_74_code, 2, some .int, 2), (10, ⟨"DungeonBuilderModel", "visits", "()I"⟩, prog_12_method_75_code, 1, some .int, 1), (10, ⟨"DungeonBuilderModel", "visit", "(I)I"⟩, prog_12_method_76_code, 2, some .int, 2), (10, ⟨"DungeonBuilderModel", "visitedAt", "(I)I"⟩, prog_12_method_77_code, 3, some .int, 2), (10, ⟨"DungeonBuilderModel", "isSolvable", "()I"⟩, prog_12_method_78_code, 1, some .int, 1), (10, ⟨"DungeonBuilderModel", "keysFound", "()I"⟩, prog_12_method_79_code, 1, some .int, 1), (10, ⟨"DungeonBuilderModel", "needed", "(I)I"⟩, prog_12_method_80_code, 4, some .int, 2), (10, ⟨"DungeonBuilderModel", "missing", "(I)I"⟩, prog_12_method_81_code, 4, some .int, 2), (10, ⟨"DungeonBuilderModel", "keyBit", "(I)I"⟩, prog_12_method_82_code, 2, some .int, 2), (10, ⟨"DungeonBuilderModel", "through", "(II)I"⟩, prog_12_method_83_code, 6, some .int, 3), (10, ⟨"DungeonBuilderModel", "after", "(II)I"⟩, prog_12_method_84_code, 4, some .int, 3), (10, ⟨"DungeonBuilderModel", "begin", "()I"⟩, prog_12_method_85_code, 1, some .int, 1), (10, ⟨"DungeonBuilderModel", "tellLeft", "(I)V"⟩, prog_12_method_86_code, 7, none, 2), (10, ⟨"DungeonBuilderModel", "walkLength", "(I)I"⟩, prog_12_method_87_code, 2, some .int, 2), (10, ⟨"DungeonBuilderModel", "walkRoom", "(II)I"⟩, prog_12_method_88_code, 7, some .int, 3), (10, ⟨"DungeonBuilderModel", "criticalLength", "()I"⟩, prog_12_method_89_code, 3, some .int, 1), (10, ⟨"DungeonBuilderModel", "tension", "(I)I"⟩, prog_12_method_90_code, 2, some .int, 2), (10, ⟨"DungeonBuilderModel", "drops", "()I"⟩, prog_12_method_91_code, 3, some .int, 1), (10, ⟨"DungeonBuilderModel", "backtracking", "()I"⟩, prog_12_method_92_code, 3, some .int, 1), (10, ⟨"DungeonBuilderModel", "averageBits", "()J"⟩, prog_12_method_93_code, 3, some .long, 1), (10, ⟨"DungeonBuilderModel", "save", "()I"⟩, prog_12_method_94_code, 2, some .int, 1), (10, ⟨"DungeonBuilderModel", "restore", "()I"⟩, prog_12_method_95_code, 2, some .int, 1), (11, ⟨"java/lang/Double", "isNaN", "(D)Z"⟩, prog_13_method_6_code, 2, some .boolean, 1), (11, ⟨"java/lang/Double", "doubleToLongBits", "(D)J"⟩, prog_13_method_23_code, 2, some .long, 1), (12, ⟨"java/lang/Integer", "bitCount", "(I)I"⟩, prog_14_method_49_code, 1, some .int, 1), (12, ⟨"java/lang/Integer", "signum", "(I)I"⟩, prog_14_method_56_code, 1, some .int, 1), (13, ⟨"java/lang/Math", "abs", "(I)I"⟩, prog_15_method_59_code, 1, some .int, 1), (13, ⟨"java/lang/Math", "max", "(II)I"⟩, prog_15_method_65_code, 2, some .int, 2), (13, ⟨"java/lang/Math", "min", "(II)I"⟩, prog_15_method_69_code, 2, some .int, 2), (14, ⟨"java/util/Arrays", "fill", "([II)V"⟩, prog_17_method_103_code, 4, none, 2), (15, ⟨"DungeonBuilderLaw", "law", "([I)Z"⟩, code, 4, some .boolean, 1)]
def zFl : List (Nat × Nat × Nat) := [(11, 0, 0), (15, 0, 1), (18, 0, 2), (21, 0, 3), (24, 0, 4), (27, 0, 5), (30, 0, 6), (33, 0, 7), (36, 0, 8), (40, 0, 9), (43, 0, 10), (46, 0, 11), (4105, 1, 0), (4111, 1, 1), (4114, 1, 2), (4117, 1, 3), (4120, 1, 4), (4123, 1, 5), (4126, 1, 6), (4129, 1, 7), (4132, 1, 8), (4136, 1, 9), (4139, 1, 10), (4142, 1, 11), (8201, 2, 0), (8207, 2, 1), (8210, 2, 2), (8213, 2, 3), (8216, 2, 4), (8220, 1, 10), (8231, 1, 8), (8242, 1, 11), (8262, 1, 9), (8265, 1, 5), (8268, 1, 6), (12297, 3, 0), (12303, 3, 1), (12306, 3, 2), (12309, 3, 3), (12312, 3, 4), (12315, 3, 5), (12325, 1, 8), (12334, 1, 9), (12340, 1, 3), (12343, 1, 2), (12346, 1, 0), (12349, 1, 1), (12356, 1, 5), (12359, 1, 6), (12369, 1, 7), (12398, 1, 10), (12401, 1, 4), (16397, 4, 0), (16401, 4, 1), (16405, 4, 2), (20489, 5, 0), (20506, 1, 7), (20511, 1, 4), (20514, 1, 9), (20529, 1, 8), (20551, 1, 10), (24585, 1, 8), (24597, 1, 9), (24600, 1, 5), (24604, 1, 6), (24619, 1, 10), (28683, 7, 0), (28687, 7, 1), (28690, 7, 2), (28695, 7, 3), (28698, 7, 4), (28702, 7, 5), (28705, 7, 6), (28708, 7, 7), (32779, 8, 0), (32783, 8, 1), (32786, 8, 2), (32789, 8, 3), (32792, 8, 4), (32795, 8, 5), (32798, 8, 6), (32808, 1, 8), (32812, 1, 10), (36876, 9, 0), (36880, 9, 1), (36886, 9, 2), (36893, 9, 3), (36900, 9, 4), (36907, 9, 5), (36914, 9, 6), (36921, 9, 7), (36928, 9, 8), (36932, 9, 9), (36974, 1, 8), (36986, 1, 11), (37003, 7, 6), (37006, 7, 7), (37012, 1, 9), (37042, 7, 5), (37049, 1, 0), (37053, 1, 1), (37056, 1, 2), (37059, 1, 3), (37062, 1, 4), (37080, 1, 5), (37083, 1, 6), (37086, 1, 7), (37095, 1, 10), (37116, 2, 0), (37119, 2, 1), (37122, 2, 4), (37128, 2, 2), (40967, 10, 0), (40973, 10, 1), (40976, 10, 3), (40979, 10, 5), (40982, 10, 7), (40985, 10, 9), (40988, 10, 11), (40991, 10, 12), (40994, 10, 14), (40998, 10, 16), (41002, 10, 18), (41006, 10, 21), (41009, 10, 22), (41012, 10, 23), (41015, 10, 24), (41036, 10, 2), (41087, 10, 6), (41091, 10, 8), (41101, 10, 10), (41124, 10, 15), (41127, 10, 13), (41149, 10, 17), (41152, 10, 19), (41155, 10, 20), (41228, 10, 4)]
def zMl : List (Nat × Nat × Nat) := [(3, 0, 6), (49, 14, 0), (54, 3, 0), (58, 4, 1), (62, 8, 0), (66, 9, 0), (71, 7, 0), (75, 5, 0), (79, 6, 0), (82, 2, 0), (85, 0, 10), (91, 17, 0), (94, 34, 0), (97, 20, 0), (4099, 0, 6), (4145, 12, 0), (4149, 13, 0), (4152, 18, 1), (4156, 19, 0), (4159, 15, 0), (4163, 30, 0), (4167, 0, 10), (4172, 0, 9), (4175, 34, 0), (4178, 20, 0), (4181, 16, 0), (4184, 148, 4), (4187, 147, 4), (4191, 26, 0), (4195, 27, 1), (4198, 29, 0), (4202, 32, 0), (4205, 0, 8), (4208, 33, 0), (4211, 149, 4), (4214, 39, 0), (4217, 31, 0), (8195, 0, 6), (8225, 82, 1), (8234, 44, 1), (8238, 45, 0), (8245, 39, 0), (8249, 31, 0), (8252, 46, 1), (8255, 149, 4), (8259, 78, 1), (8271, 35, 0), (12291, 0, 6), (12319, 254, 1), (12330, 53, 0), (12337, 54, 0), (12352, 150, 4), (12362, 34, 0), (12365, 55, 1), (12372, 32, 0), (12376, 33, 0), (12379, 0, 8), (12384, 0, 10), (12387, 0, 9), (12390, 250, 1), (12395, 61, 1), (12404, 63, 0), (12408, 58, 0), (16389, 0, 6), (16408, 10, 5), (16409, 11, 0), (16413, 0, 10), (20483, 0, 6), (20495, 72, 1), (20499, 73, 1), (20502, 74, 0), (20518, 79, 1), (20523, 249, 1), (20532, 0, 8), (20537, 36, 0), (20540, 149, 4), (20544, 77, 1), (20547, 75, 1), (20554, 82, 1), (24591, 78, 1), (24607, 35, 0), (24611, 77, 1), (24615, 75, 1), (24622, 149, 4), (24625, 36, 0), (24629, 80, 1), (24632, 254, 1), (24638, 15, 0), (24642, 83, 1), (28675, 0, 6), (28711, 86, 0), (28715, 88, 0), (28719, 92, 0), (28723, 89, 0), (28726, 93, 0), (28730, 90, 1), (28733, 94, 1), (28736, 91, 0), (28740, 96, 1), (28744, 17, 0), (28750, 20, 0), (28754, 22, 0), (28757, 23, 0), (28760, 24, 0), (32773, 0, 6), (32802, 254, 1), (32815, 100, 0), (32819, 99, 0), (32823, 30, 0), (32827, 35, 0), (32831, 36, 0), (32835, 101, 0), (36867, 0, 6), (36875, 10, 5), (36885, 64, 2), (36892, 84, 5), (36899, 0, 5), (36906, 70, 5), (36913, 42, 5), (36920, 97, 5), (36927, 51, 5), (36936, 65, 0), (36940, 17, 0), (36944, 145, 0), (36948, 20, 0), (36952, 22, 0), (36955, 146, 0), (36958, 23, 0), (36961, 24, 0), (36964, 25, 0), (36967, 28, 0), (36970, 1, 0), (36978, 21, 0), (36982, 71, 0), (36989, 85, 0), (36992, 87, 0), (36996, 95, 0), (37000, 67, 0), (37009, 68, 0), (37015, 37, 0), (37018, 38, 0), (37021, 40, 0), (37024, 52, 0), (37027, 57, 0), (37030, 41, 0), (37033, 80, 1), (37039, 81, 1), (37045, 15, 0), (37065, 147, 1), (37068, 31, 0), (37071, 32, 0), (37074, 33, 0), (37077, 16, 0), (37089, 56, 0), (37092, 30, 0), (37098, 150, 1), (37101, 59, 0), (37104, 60, 0), (37107, 58, 0), (37110, 62, 0), (37113, 43, 0), (37125, 47, 0), (37131, 48, 0), (37134, 76, 1), (37138, 78, 1), (37141, 149, 1), (37145, 98, 0), (37148, 101, 0), (37151, 102, 0), (37154, 0, 9), (37159, 49, 0), (37162, 50, 0), (37169, 151, 1), (37173, 11, 0), (37176, 69, 0), (37179, 66, 0), (40961, 0, 6), (41018, 153, 1), (41022, 156, 0), (41026, 158, 0), (41030, 160, 1), (41033, 159, 0), (41039, 163, 0), (41042, 165, 0), (41045, 157, 0), (41048, 154, 0), (41052, 167, 0), (41055, 155, 0), (41058, 169, 1), (41061, 162, 0), (41064, 166, 0), (41068, 164, 0), (41071, 168, 0), (41074, 170, 0), (41077, 171, 0), (41080, 172, 0), (41083, 173, 0), (41094, 181, 0), (41097, 182, 1), (41104, 161, 0), (41107, 183, 1), (41110, 184, 0), (41114, 187, 0), (41118, 188, 0), (41121, 189, 0), (41130, 192, 0), (41133, 191, 0), (41136, 190, 0), (41139, 193, 0), (41142, 195, 0), (41145, 196, 0), (41158, 201, 1), (41161, 200, 0), (41164, 202, 0), (41167, 203, 0), (41171, 204, 0), (41174, 209, 1), (41177, 210, 0), (41180, 208, 1), (41184, 211, 0), (41188, 215, 0), (41191, 216, 0), (41194, 218, 0), (41197, 212, 0), (41200, 194, 0), (41203, 233, 0), (41206, 234, 0), (41209, 237, 0), (41212, 236, 0), (41215, 235, 0), (41222, 248, 1), (45178, 247, 1), (45190, 0, 7), (61449, 103, 2), (61452, 152, 2), (61453, 104, 0), (61457, 174, 0), (61458, 105, 0), (61462, 175, 0), (61463, 106, 0), (61466, 176, 0), (61467, 107, 0), (61470, 177, 0), (61471, 108, 0), (61475, 178, 0), (61476, 109, 0), (61479, 179, 0), (61480, 110, 0), (61483, 180, 0), (61484, 111, 0), (61487, 185, 0), (61488, 112, 0), (61492, 186, 0), (61493, 113, 0), (61496, 197, 0), (61497, 114, 0), (61500, 198, 0), (61501, 115, 0), (61504, 199, 0), (61505, 116, 0), (61508, 205, 0), (61509, 117, 0), (61512, 206, 0), (61513, 118, 0), (61516, 207, 0), (61517, 119, 0), (61520, 219, 0), (61521, 120, 0), (61524, 220, 0), (61525, 121, 0), (61528, 221, 0), (61529, 122, 0), (61532, 222, 0), (61533, 123, 0), (61536, 223, 0), (61537, 124, 0), (61540, 213, 0), (61541, 125, 0), (61544, 214, 0), (61545, 126, 0), (61548, 217, 0), (61549, 127, 0), (61552, 224, 0), (61553, 128, 0), (61556, 225, 0), (61557, 129, 0), (61560, 226, 0), (61561, 130, 0), (61564, 227, 0), (61565, 131, 0), (61568, 228, 0), (61569, 132, 0), (61572, 229, 0), (61573, 133, 0), (61576, 230, 0), (61577, 134, 0), (61580, 231, 0), (61581, 135, 0), (61584, 232, 0), (61585, 136, 0), (61588, 238, 0), (61589, 137, 0), (61592, 239, 0), (61593, 138, 0), (61596, 240, 0), (61597, 139, 0), (61600, 241, 0), (61601, 140, 0), (61604, 242, 0), (61605, 141, 0), (61608, 243, 0), (61609, 142, 0), (61613, 244, 0), (61614, 143, 0), (61617, 245, 0), (61618, 144, 0), (61621, 246, 0)]
def zNl : List (Nat × Nat) := [(16395, 1), (36873, 1), (36883, 4), (36890, 7), (36897, 0), (36904, 5), (36911, 2), (36918, 8), (36925, 3), (61447, 9), (61450, 10)]
def zKi : List (Nat × Int) := [(70, 1103515245), (41090, 1103515245), (49417, 1431655765), (49418, 858993459), (49419, 252645135)]
def zKl : List (Nat × Int64) := [(37167, -9223372036854775808), (37182, 1023), (41220, -9223372036854775808), (45193, 9221120237041090560)]
def zKd : List (Nat × UInt64) := [(37184, 4611686018427387904), (37186, 4841369599423283200)]
end
section
/-- the rows of a method's table are what its bytes decode to -/
def zdk (b : ByteArray) (c : List (Nat × Nat × Instr)) : Bool := c.all fun q => decide (decode b q.1 = .ok (q.2.2, q.2.1))
theorem zd_0 : zdk prog_2_method_1_code zc_0 = true := by decide +kernel
theorem zd_1 : zdk prog_2_method_2_code zc_1 = true := by decide +kernel
theorem zd_2 : zdk prog_2_method_3_code zc_2 = true := by decide +kernel
theorem zd_3 : zdk prog_2_method_4_code zc_3 = true := by decide +kernel
theorem zd_4 : zdk prog_2_method_5_code zc_4 = true := by decide +kernel
theorem zd_5 : zdk prog_2_method_6_code zc_5 = true := by decide +kernel
theorem zd_6 : zdk prog_2_method_7_code zc_6 = true := by decide +kernel
theorem zd_7 : zdk prog_2_method_8_code zc_7 = true := by decide +kernel
theorem zd_8 : zdk prog_2_method_9_code zc_8 = true := by decide +kernel
theorem zd_9 : zdk prog_2_method_10_code zc_9 = true := by decide +kernel
theorem zd_10 : zdk prog_3_method_1_code zc_10 = true := by decide +kernel
theorem zd_11 : zdk prog_3_method_2_code zc_11 = true := by decide +kernel
theorem zd_12 : zdk prog_3_method_3_code zc_12 = true := by decide +kernel
theorem zd_13 : zdk prog_3_method_4_code zc_13 = true := by decide +kernel
theorem zd_14 : zdk prog_3_method_5_code zc_14 = true := by decide +kernel
theorem zd_15 : zdk prog_3_method_6_code zc_15 = true := by decide +kernel
theorem zd_16 : zdk prog_3_method_7_code zc_16 = true := by decide +kernel
theorem zd_17 : zdk prog_3_method_8_code zc_17 = true := by decide +kernel
theorem zd_18 : zdk prog_3_method_9_code zc_18 = true := by decide +kernel
theorem zd_19 : zdk prog_3_method_10_code zc_19 = true := by decide +kernel
theorem zd_20 : zdk prog_3_method_11_code zc_20 = true := by decide +kernel
theorem zd_21 : zdk prog_3_method_12_code zc_21 = true := by decide +kernel
theorem zd_22 : zdk prog_3_method_13_code zc_22 = true := by decide +kernel
theorem zd_23 : zdk prog_3_method_14_code zc_23 = true := by decide +kernel
theorem zd_24 : zdk prog_3_method_15_code zc_24 = true := by decide +kernel
theorem zd_25 : zdk prog_3_method_16_code zc_25 = true := by decide +kernel
theorem zd_26 : zdk prog_3_method_17_code zc_26 = true := by decide +kernel
theorem zd_27 : zdk prog_3_method_18_code zc_27 = true := by decide +kernel
theorem zd_28 : zdk prog_3_method_19_code zc_28 = true := by decide +kernel
theorem zd_29 : zdk prog_3_method_20_code zc_29 = true := by decide +kernel
theorem zd_30 : zdk prog_3_method_21_code zc_30 = true := by decide +kernel
theorem zd_31 : zdk prog_3_method_22_code zc_31 = true := by decide +kernel
theorem zd_32 : zdk prog_3_method_23_code zc_32 = true := by decide +kernel
theorem zd_33 : zdk prog_3_method_24_code zc_33 = true := by decide +kernel
theorem zd_34 : zdk prog_3_method_25_code zc_34 = true := by decide +kernel
theorem zd_35 : zdk prog_3_method_26_code zc_35 = true := by decide +kernel
theorem zd_36 : zdk prog_3_method_27_code zc_36 = true := by decide +kernel
theorem zd_37 : zdk prog_3_method_28_code zc_37 = true := by decide +kernel
theorem zd_38 : zdk prog_3_method_29_code zc_38 = true := by decide +kernel
theorem zd_39 : zdk prog_3_method_30_code zc_39 = true := by decide +kernel
theorem zd_40 : zdk prog_3_method_31_code zc_40 = true := by decide +kernel
theorem zd_41 : zdk prog_3_method_32_code zc_41 = true := by decide +kernel
theorem zd_42 : zdk prog_4_method_1_code zc_42 = true := by decide +kernel
theorem zd_43 : zdk prog_4_method_2_code zc_43 = true := by decide +kernel
theorem zd_44 : zdk prog_4_method_3_code zc_44 = true := by decide +kernel
theorem zd_45 : zdk prog_4_method_4_code zc_45 = true := by decide +kernel
theorem zd_46 : zdk prog_4_method_5_code zc_46 = true := by decide +kernel
theorem zd_47 : zdk prog_4_method_6_code zc_47 = true := by decide +kernel
theorem zd_48 : zdk prog_4_method_7_code zc_48 = true := by decide +kernel
theorem zd_49 : zdk prog_4_method_8_code zc_49 = true := by decide +kernel
theorem zd_50 : zdk prog_4_method_9_code zc_50 = true := by decide +kernel
theorem zd_51 : zdk prog_5_method_1_code zc_51 = true := by decide +kernel
theorem zd_52 : zdk prog_5_method_2_code zc_52 = true := by decide +kernel
theorem zd_53 : zdk prog_5_method_3_code zc_53 = true := by decide +kernel
theorem zd_54 : zdk prog_5_method_4_code zc_54 = true := by decide +kernel
theorem zd_55 : zdk prog_5_method_5_code zc_55 = true := by decide +kernel
theorem zd_56 : zdk prog_5_method_6_code zc_56 = true := by decide +kernel
theorem zd_57 : zdk prog_5_method_7_code zc_57 = true := by decide +kernel
theorem zd_58 : zdk prog_5_method_8_code zc_58 = true := by decide +kernel
theorem zd_59 : zdk prog_5_method_9_code zc_59 = true := by decide +kernel
theorem zd_60 : zdk prog_5_method_10_code zc_60 = true := by decide +kernel
theorem zd_61 : zdk prog_5_method_11_code zc_61 = true := by decide +kernel
theorem zd_62 : zdk prog_5_method_12_code zc_62 = true := by decide +kernel
theorem zd_63 : zdk prog_5_method_13_code zc_63 = true := by decide +kernel
theorem zd_64 : zdk prog_6_method_1_code zc_64 = true := by decide +kernel
theorem zd_65 : zdk prog_6_method_2_code zc_65 = true := by decide +kernel
theorem zd_66 : zdk prog_6_method_3_code zc_66 = true := by decide +kernel
theorem zd_67 : zdk prog_6_method_4_code zc_67 = true := by decide +kernel
theorem zd_68 : zdk prog_6_method_5_code zc_68 = true := by decide +kernel
theorem zd_69 : zdk prog_6_method_6_code zc_69 = true := by decide +kernel
theorem zd_70 : zdk prog_7_method_1_code zc_70 = true := by decide +kernel
theorem zd_71 : zdk prog_7_method_2_code zc_71 = true := by decide +kernel
theorem zd_72 : zdk prog_7_method_3_code zc_72 = true := by decide +kernel
theorem zd_73 : zdk prog_7_method_4_code zc_73 = true := by decide +kernel
theorem zd_74 : zdk prog_7_method_5_code zc_74 = true := by decide +kernel
theorem zd_75 : zdk prog_8_method_2_code zc_75 = true := by decide +kernel
theorem zd_76 : zdk prog_8_method_3_code zc_76 = true := by decide +kernel
theorem zd_77 : zdk prog_8_method_4_code zc_77 = true := by decide +kernel
theorem zd_78 : zdk prog_8_method_5_code zc_78 = true := by decide +kernel
theorem zd_79 : zdk prog_8_method_6_code zc_79 = true := by decide +kernel
theorem zd_80 : zdk prog_8_method_7_code zc_80 = true := by decide +kernel
theorem zd_81 : zdk prog_8_method_8_code zc_81 = true := by decide +kernel
theorem zd_82 : zdk prog_8_method_9_code zc_82 = true := by decide +kernel
theorem zd_83 : zdk prog_8_method_10_code zc_83 = true := by decide +kernel
theorem zd_84 : zdk prog_9_method_1_code zc_84 = true := by decide +kernel
theorem zd_85 : zdk prog_9_method_2_code zc_85 = true := by decide +kernel
theorem zd_86 : zdk prog_9_method_3_code zc_86 = true := by decide +kernel
theorem zd_87 : zdk prog_9_method_4_code zc_87 = true := by decide +kernel
theorem zd_88 : zdk prog_9_method_5_code zc_88 = true := by decide +kernel
theorem zd_89 : zdk prog_9_method_6_code zc_89 = true := by decide +kernel
theorem zd_90 : zdk prog_9_method_7_code zc_90 = true := by decide +kernel
theorem zd_91 : zdk prog_9_method_8_code zc_91 = true := by decide +kernel
theorem zd_92 : zdk prog_9_method_9_code zc_92 = true := by decide +kernel
theorem zd_93 : zdk prog_9_method_10_code zc_93 = true := by decide +kernel
theorem zd_94 : zdk prog_9_method_11_code zc_94 = true := by decide +kernel
theorem zd_95 : zdk prog_9_method_12_code zc_95 = true := by decide +kernel
theorem zd_96 : zdk prog_9_method_13_code zc_96 = true := by decide +kernel
theorem zd_97 : zdk prog_10_method_1_code zc_97 = true := by decide +kernel
theorem zd_98 : zdk prog_10_method_2_code zc_98 = true := by decide +kernel
theorem zd_99 : zdk prog_10_method_3_code zc_99 = true := by decide +kernel
theorem zd_100 : zdk prog_10_method_4_code zc_100 = true := by decide +kernel
theorem zd_101 : zdk prog_10_method_5_code zc_101 = true := by decide +kernel
theorem zd_102 : zdk prog_10_method_6_code zc_102 = true := by decide +kernel
theorem zd_103 : zdk prog_1_method_1_code zc_103 = true := by decide +kernel
theorem zd_104 : zdk prog_1_method_2_code zc_104 = true := by decide +kernel
theorem zd_105 : zdk prog_1_method_3_code zc_105 = true := by decide +kernel
theorem zd_106 : zdk prog_1_method_4_code zc_106 = true := by decide +kernel
theorem zd_107 : zdk prog_1_method_5_code zc_107 = true := by decide +kernel
theorem zd_108 : zdk prog_1_method_6_code zc_108 = true := by decide +kernel
theorem zd_109 : zdk prog_1_method_7_code zc_109 = true := by decide +kernel
theorem zd_110 : zdk prog_1_method_8_code zc_110 = true := by decide +kernel
theorem zd_111 : zdk prog_1_method_9_code zc_111 = true := by decide +kernel
theorem zd_112 : zdk prog_1_method_10_code zc_112 = true := by decide +kernel
theorem zd_113 : zdk prog_1_method_11_code zc_113 = true := by decide +kernel
theorem zd_114 : zdk prog_1_method_12_code zc_114 = true := by decide +kernel
theorem zd_115 : zdk prog_1_method_13_code zc_115 = true := by decide +kernel
theorem zd_116 : zdk prog_1_method_14_code zc_116 = true := by decide +kernel
theorem zd_117 : zdk prog_1_method_15_code zc_117 = true := by decide +kernel
theorem zd_118 : zdk prog_1_method_16_code zc_118 = true := by decide +kernel
theorem zd_119 : zdk prog_1_method_17_code zc_119 = true := by decide +kernel
theorem zd_120 : zdk prog_1_method_18_code zc_120 = true := by decide +kernel
theorem zd_121 : zdk prog_1_method_19_code zc_121 = true := by decide +kernel
theorem zd_122 : zdk prog_1_method_20_code zc_122 = true := by decide +kernel
theorem zd_123 : zdk prog_1_method_21_code zc_123 = true := by decide +kernel
theorem zd_124 : zdk prog_1_method_22_code zc_124 = true := by decide +kernel
theorem zd_125 : zdk prog_1_method_23_code zc_125 = true := by decide +kernel
theorem zd_126 : zdk prog_1_method_24_code zc_126 = true := by decide +kernel
theorem zd_127 : zdk prog_1_method_25_code zc_127 = true := by decide +kernel
theorem zd_128 : zdk prog_1_method_26_code zc_128 = true := by decide +kernel
theorem zd_129 : zdk prog_1_method_27_code zc_129 = true := by decide +kernel
theorem zd_130 : zdk prog_1_method_28_code zc_130 = true := by decide +kernel
theorem zd_131 : zdk prog_1_method_29_code zc_131 = true := by decide +kernel
theorem zd_132 : zdk prog_1_method_30_code zc_132 = true := by decide +kernel
theorem zd_133 : zdk prog_1_method_31_code zc_133 = true := by decide +kernel
theorem zd_134 : zdk prog_1_method_32_code zc_134 = true := by decide +kernel
theorem zd_135 : zdk prog_1_method_33_code zc_135 = true := by decide +kernel
theorem zd_136 : zdk prog_1_method_34_code zc_136 = true := by decide +kernel
theorem zd_137 : zdk prog_1_method_35_code zc_137 = true := by decide +kernel
theorem zd_138 : zdk prog_1_method_36_code zc_138 = true := by decide +kernel
theorem zd_139 : zdk prog_1_method_37_code zc_139 = true := by decide +kernel
theorem zd_140 : zdk prog_1_method_38_code zc_140 = true := by decide +kernel
theorem zd_141 : zdk prog_1_method_39_code zc_141 = true := by decide +kernel
theorem zd_142 : zdk prog_1_method_40_code zc_142 = true := by decide +kernel
theorem zd_143 : zdk prog_1_method_41_code zc_143 = true := by decide +kernel
theorem zd_144 : zdk prog_1_method_42_code zc_144 = true := by decide +kernel
theorem zd_145 : zdk prog_1_method_43_code zc_145 = true := by decide +kernel
theorem zd_146 : zdk prog_1_method_44_code zc_146 = true := by decide +kernel
theorem zd_147 : zdk prog_1_method_45_code zc_147 = true := by decide +kernel
theorem zd_148 : zdk prog_1_method_46_code zc_148 = true := by decide +kernel
theorem zd_149 : zdk prog_1_method_47_code zc_149 = true := by decide +kernel
theorem zd_150 : zdk prog_1_method_48_code zc_150 = true := by decide +kernel
theorem zd_151 : zdk prog_1_method_49_code zc_151 = true := by decide +kernel
theorem zd_152 : zdk prog_12_method_1_code zc_152 = true := by decide +kernel
theorem zd_153 : zdk prog_12_method_2_code zc_153 = true := by decide +kernel
theorem zd_154 : zdk prog_12_method_3_code zc_154 = true := by decide +kernel
theorem zd_155 : zdk prog_12_method_4_code zc_155 = true := by decide +kernel
theorem zd_156 : zdk prog_12_method_5_code zc_156 = true := by decide +kernel
theorem zd_157 : zdk prog_12_method_6_code zc_157 = true := by decide +kernel
theorem zd_158 : zdk prog_12_method_7_code zc_158 = true := by decide +kernel
theorem zd_159 : zdk prog_12_method_8_code zc_159 = true := by decide +kernel
theorem zd_160 : zdk prog_12_method_9_code zc_160 = true := by decide +kernel
theorem zd_161 : zdk prog_12_method_10_code zc_161 = true := by decide +kernel
theorem zd_162 : zdk prog_12_method_11_code zc_162 = true := by decide +kernel
theorem zd_163 : zdk prog_12_method_12_code zc_163 = true := by decide +kernel
theorem zd_164 : zdk prog_12_method_13_code zc_164 = true := by decide +kernel
theorem zd_165 : zdk prog_12_method_14_code zc_165 = true := by decide +kernel
theorem zd_166 : zdk prog_12_method_15_code zc_166 = true := by decide +kernel
theorem zd_167 : zdk prog_12_method_16_code zc_167 = true := by decide +kernel
theorem zd_168 : zdk prog_12_method_17_code zc_168 = true := by decide +kernel
theorem zd_169 : zdk prog_12_method_18_code zc_169 = true := by decide +kernel
theorem zd_170 : zdk prog_12_method_19_code zc_170 = true := by decide +kernel
theorem zd_171 : zdk prog_12_method_20_code zc_171 = true := by decide +kernel
theorem zd_172 : zdk prog_12_method_21_code zc_172 = true := by decide +kernel
theorem zd_173 : zdk prog_12_method_22_code zc_173 = true := by decide +kernel
theorem zd_174 : zdk prog_12_method_23_code zc_174 = true := by decide +kernel
theorem zd_175 : zdk prog_12_method_24_code zc_175 = true := by decide +kernel
theorem zd_176 : zdk prog_12_method_25_code zc_176 = true := by decide +kernel
theorem zd_177 : zdk prog_12_method_26_code zc_177 = true := by decide +kernel
theorem zd_178 : zdk prog_12_method_27_code zc_178 = true := by decide +kernel
theorem zd_179 : zdk prog_12_method_28_code zc_179 = true := by decide +kernel
theorem zd_180 : zdk prog_12_method_29_code zc_180 = true := by decide +kernel
theorem zd_181 : zdk prog_12_method_30_code zc_181 = true := by decide +kernel
theorem zd_182 : zdk prog_12_method_31_code zc_182 = true := by decide +kernel
theorem zd_183 : zdk prog_12_method_32_code zc_183 = true := by decide +kernel
theorem zd_184 : zdk prog_12_method_33_code zc_184 = true := by decide +kernel
theorem zd_185 : zdk prog_12_method_34_code zc_185 = true := by decide +kernel
theorem zd_186 : zdk prog_12_method_35_code zc_186 = true := by decide +kernel
theorem zd_187 : zdk prog_12_method_36_code zc_187 = true := by decide +kernel
theorem zd_188 : zdk prog_12_method_37_code zc_188 = true := by decide +kernel
theorem zd_189 : zdk prog_12_method_38_code zc_189 = true := by decide +kernel
theorem zd_190 : zdk prog_12_method_39_code zc_190 = true := by decide +kernel
theorem zd_191 : zdk prog_12_method_40_code zc_191 = true := by decide +kernel
theorem zd_192 : zdk prog_12_method_41_code zc_192 = true := by decide +kernel
theorem zd_193 : zdk prog_12_method_42_code zc_193 = true := by decide +kernel
theorem zd_194 : zdk prog_12_method_43_code zc_194 = true := by decide +kernel
theorem zd_195 : zdk prog_12_method_44_code zc_195 = true := by decide +kernel
theorem zd_196 : zdk prog_12_method_45_code zc_196 = true := by decide +kernel
theorem zd_197 : zdk prog_12_method_46_code zc_197 = true := by decide +kernel
theorem zd_198 : zdk prog_12_method_47_code zc_198 = true := by decide +kernel
theorem zd_199 : zdk prog_12_method_48_code zc_199 = true := by decide +kernel
theorem zd_200 : zdk prog_12_method_49_code zc_200 = true := by decide +kernel
theorem zd_201 : zdk prog_12_method_50_code zc_201 = true := by decide +kernel
theorem zd_202 : zdk prog_12_method_51_code zc_202 = true := by decide +kernel
theorem zd_203 : zdk prog_12_method_52_code zc_203 = true := by decide +kernel
theorem zd_204 : zdk prog_12_method_53_code zc_204 = true := by decide +kernel
theorem zd_205 : zdk prog_12_method_54_code zc_205 = true := by decide +kernel
theorem zd_206 : zdk prog_12_method_55_code zc_206 = true := by decide +kernel
theorem zd_207 : zdk prog_12_method_56_code zc_207 = true := by decide +kernel
theorem zd_208 : zdk prog_12_method_57_code zc_208 = true := by decide +kernel
theorem zd_209 : zdk prog_12_method_58_code zc_209 = true := by decide +kernel
theorem zd_210 : zdk prog_12_method_59_code zc_210 = true := by decide +kernel
theorem zd_211 : zdk prog_12_method_60_code zc_211 = true := by decide +kernel
theorem zd_212 : zdk prog_12_method_61_code zc_212 = true := by decide +kernel
theorem zd_213 : zdk prog_12_method_62_code zc_213 = true := by decide +kernel
theorem zd_214 : zdk prog_12_method_63_code zc_214 = true := by decide +kernel
theorem zd_215 : zdk prog_12_method_64_code zc_215 = true := by decide +kernel
theorem zd_216 : zdk prog_12_method_65_code zc_216 = true := by decide +kernel
theorem zd_217 : zdk prog_12_method_66_code zc_217 = true := by decide +kernel
theorem zd_218 : zdk prog_12_method_67_code zc_218 = true := by decide +kernel
theorem zd_219 : zdk prog_12_method_68_code zc_219 = true := by decide +kernel
theorem zd_220 : zdk prog_12_method_69_code zc_220 = true := by decide +kernel
theorem zd_221 : zdk prog_12_method_70_code zc_221 = true := by decide +kernel
theorem zd_222 : zdk prog_12_method_71_code zc_222 = true := by decide +kernel
theorem zd_223 : zdk prog_12_method_72_code zc_223 = true := by decide +kernel
theorem zd_224 : zdk prog_12_method_73_code zc_224 = true := by decide +kernel
theorem zd_225 : zdk prog_12_method_74_code zc_225 = true := by decide +kernel
theorem zd_226 : zdk prog_12_method_75_code zc_226 = true := by decide +kernel
theorem zd_227 : zdk prog_12_method_76_code zc_227 = true := by decide +kernel
theorem zd_228 : zdk prog_12_method_77_code zc_228 = true := by decide +kernel
theorem zd_229 : zdk prog_12_method_78_code zc_229 = true := by decide +kernel
theorem zd_230 : zdk prog_12_method_79_code zc_230 = true := by decide +kernel
theorem zd_231 : zdk prog_12_method_80_code zc_231 = true := by decide +kernel
theorem zd_232 : zdk prog_12_method_81_code zc_232 = true := by decide +kernel
theorem zd_233 : zdk prog_12_method_82_code zc_233 = true := by decide +kernel
theorem zd_234 : zdk prog_12_method_83_code zc_234 = true := by decide +kernel
theorem zd_235 : zdk prog_12_method_84_code zc_235 = true := by decide +kernel
theorem zd_236 : zdk prog_12_method_85_code zc_236 = true := by decide +kernel
theorem zd_237 : zdk prog_12_method_86_code zc_237 = true := by decide +kernel
theorem zd_238 : zdk prog_12_method_87_code zc_238 = true := by decide +kernel
theorem zd_239 : zdk prog_12_method_88_code zc_239 = true := by decide +kernel
theorem zd_240 : zdk prog_12_method_89_code zc_240 = true := by decide +kernel
theorem zd_241 : zdk prog_12_method_90_code zc_241 = true := by decide +kernel
theorem zd_242 : zdk prog_12_method_91_code zc_242 = true := by decide +kernel
theorem zd_243 : zdk prog_12_method_92_code zc_243 = true := by decide +kernel
theorem zd_244 : zdk prog_12_method_93_code zc_244 = true := by decide +kernel
theorem zd_245 : zdk prog_12_method_94_code zc_245 = true := by decide +kernel
theorem zd_246 : zdk prog_12_method_95_code zc_246 = true := by decide +kernel
theorem zd_247 : zdk prog_13_method_6_code zc_247 = true := by decide +kernel
theorem zd_248 : zdk prog_13_method_23_code zc_248 = true := by decide +kernel
theorem zd_249 : zdk prog_14_method_49_code zc_249 = true := by decide +kernel
theorem zd_250 : zdk prog_14_method_56_code zc_250 = true := by decide +kernel
theorem zd_251 : zdk prog_15_method_59_code zc_251 = true := by decide +kernel
theorem zd_252 : zdk prog_15_method_65_code zc_252 = true := by decide +kernel
theorem zd_253 : zdk prog_15_method_69_code zc_253 = true := by decide +kernel
theorem zd_254 : zdk prog_17_method_103_code zc_254 = true := by decide +kernel
end
section
theorem zdk_cut {b : ByteArray} {c : List (Nat × Nat × Instr)} (n : Nat) (h1 : zdk b (c.take n) = true) (h2 : zdk b (c.drop n) = true) : zdk b c = true := by
  rw [← List.take_append_drop n c]
  unfold zdk at *
  rw [List.all_append, h1, h2]; rfl
theorem zdL_0 : zdk code ((zc_255.drop 0).take 40) = true := by decide +kernel
theorem zdL_1 : zdk code ((zc_255.drop 40).take 40) = true := by decide +kernel
theorem zdL_2 : zdk code ((zc_255.drop 80).take 40) = true := by decide +kernel
theorem zdL_3 : zdk code ((zc_255.drop 120).take 40) = true := by decide +kernel
theorem zdL_4 : zdk code ((zc_255.drop 160).take 40) = true := by decide +kernel
theorem zdL_5 : zdk code ((zc_255.drop 200).take 40) = true := by decide +kernel
theorem zdL_6 : zdk code ((zc_255.drop 240).take 40) = true := by decide +kernel
theorem zdL_7 : zdk code ((zc_255.drop 280).take 40) = true := by decide +kernel
theorem zdL_8 : zdk code ((zc_255.drop 320).take 40) = true := by decide +kernel
theorem zdL_9 : zdk code ((zc_255.drop 360).take 40) = true := by decide +kernel
theorem zdL_10 : zdk code ((zc_255.drop 400).take 40) = true := by decide +kernel
theorem zdL_11 : zdk code ((zc_255.drop 440).take 40) = true := by decide +kernel
theorem zdL_12 : zdk code ((zc_255.drop 480).take 40) = true := by decide +kernel
theorem zdL_13 : zdk code ((zc_255.drop 520).take 40) = true := by decide +kernel
theorem zdL_14 : zdk code ((zc_255.drop 560).take 40) = true := by decide +kernel
theorem zdL_15 : zdk code ((zc_255.drop 600).take 40) = true := by decide +kernel
theorem zdL_16 : zdk code ((zc_255.drop 640).take 40) = true := by decide +kernel
theorem zdL_17 : zdk code ((zc_255.drop 680).take 40) = true := by decide +kernel
theorem zdL_18 : zdk code ((zc_255.drop 720).take 40) = true := by decide +kernel
theorem zdM_19 : zdk code (zc_255.drop 760) = true := by decide +kernel
theorem zdM_18 : zdk code (zc_255.drop 720) = true := zdk_cut 40 zdL_18 (by rw [List.drop_drop]; exact zdM_19)
theorem zdM_17 : zdk code (zc_255.drop 680) = true := zdk_cut 40 zdL_17 (by rw [List.drop_drop]; exact zdM_18)
theorem zdM_16 : zdk code (zc_255.drop 640) = true := zdk_cut 40 zdL_16 (by rw [List.drop_drop]; exact zdM_17)
theorem zdM_15 : zdk code (zc_255.drop 600) = true := zdk_cut 40 zdL_15 (by rw [List.drop_drop]; exact zdM_16)
theorem zdM_14 : zdk code (zc_255.drop 560) = true := zdk_cut 40 zdL_14 (by rw [List.drop_drop]; exact zdM_15)
theorem zdM_13 : zdk code (zc_255.drop 520) = true := zdk_cut 40 zdL_13 (by rw [List.drop_drop]; exact zdM_14)
theorem zdM_12 : zdk code (zc_255.drop 480) = true := zdk_cut 40 zdL_12 (by rw [List.drop_drop]; exact zdM_13)
theorem zdM_11 : zdk code (zc_255.drop 440) = true := zdk_cut 40 zdL_11 (by rw [List.drop_drop]; exact zdM_12)
theorem zdM_10 : zdk code (zc_255.drop 400) = true := zdk_cut 40 zdL_10 (by rw [List.drop_drop]; exact zdM_11)
theorem zdM_9 : zdk code (zc_255.drop 360) = true := zdk_cut 40 zdL_9 (by rw [List.drop_drop]; exact zdM_10)
theorem zdM_8 : zdk code (zc_255.drop 320) = true := zdk_cut 40 zdL_8 (by rw [List.drop_drop]; exact zdM_9)
theorem zdM_7 : zdk code (zc_255.drop 280) = true := zdk_cut 40 zdL_7 (by rw [List.drop_drop]; exact zdM_8)
theorem zdM_6 : zdk code (zc_255.drop 240) = true := zdk_cut 40 zdL_6 (by rw [List.drop_drop]; exact zdM_7)
theorem zdM_5 : zdk code (zc_255.drop 200) = true := zdk_cut 40 zdL_5 (by rw [List.drop_drop]; exact zdM_6)
theorem zdM_4 : zdk code (zc_255.drop 160) = true := zdk_cut 40 zdL_4 (by rw [List.drop_drop]; exact zdM_5)
theorem zdM_3 : zdk code (zc_255.drop 120) = true := zdk_cut 40 zdL_3 (by rw [List.drop_drop]; exact zdM_4)
theorem zdM_2 : zdk code (zc_255.drop 80) = true := zdk_cut 40 zdL_2 (by rw [List.drop_drop]; exact zdM_3)
theorem zdM_1 : zdk code (zc_255.drop 40) = true := zdk_cut 40 zdL_1 (by rw [List.drop_drop]; exact zdM_2)
theorem zdM_0 : zdk code (zc_255.drop 0) = true := zdk_cut 40 zdL_0 (by rw [List.drop_drop]; exact zdM_1)
theorem zd_255 : zdk code zc_255 = true := zdM_0
end
section
/-! A machine of numbers: what the claim's code does, said of lists and functions. A value is an int, a reference (the number of a cell), a long, a double's bits, or nothing. A heap is a list of shapes (kind, length, references) and a memory of ints (cell, place). Kinds below 20 are classes, 20 int[], 21 char[], 22 boolean[], 23 Dungeon[], 24 int[][]. -/
abbrev ZV := Int ⊕ (Nat ⊕ (Int64 ⊕ (UInt64 ⊕ Unit)))
abbrev zI (n : Int) : ZV := .inl n
abbrev zR (a : Nat) : ZV := .inr (.inl a)
abbrev zL (x : Int64) : ZV := .inr (.inr (.inl x))
abbrev zD (x : UInt64) : ZV := .inr (.inr (.inr (.inl x)))
abbrev zU : ZV := .inr (.inr (.inr (.inr ())))
abbrev ZM := Nat → Int → Int
abbrev ZS := List (Nat × Nat × List Nat)
abbrev ZH := ZS × ZM
abbrev ZO := Option (Option ZV × ZH)
/-- the script's cell -/
def zSC : Nat := 1000000
def zw (x : Int) : Int := (x + 2147483648) % 4294967296 - 2147483648
def zwr (M : ZM) (a : Nat) (i v : Int) : ZM := fun b j => if b = a ∧ j = i then v else M b j
def zzr (M : ZM) (a c : Nat) : ZM := fun b j => if a ≤ b ∧ b ≤ a + c then 0 else M b j
def zkn (s : ZS) (a : Nat) : Nat := (s.getD a (99, 0, [])).1
def zln (s : ZS) (a : Nat) : Nat := (s.getD a (99, 0, [])).2.1
def zrf (s : ZS) (a k : Nat) : Nat := (s.getD a (99, 0, [])).2.2.getD k 0
def zsr (s : ZS) (a k v : Nat) : ZS := s.set a ((s.getD a (99, 0, [])).1, (s.getD a (99, 0, [])).2.1, (s.getD a (99, 0, [])).2.2.set k v)
def zct (v : ZV) : Nat := match v with
  | .inr (.inr (.inl _)) => 2
  | .inr (.inr (.inr (.inl _))) => 2
  | _ => 1
def zc1 (v : ZV) : Bool := match v with
  | .inl _ => true
  | .inr (.inl _) => true
  | _ => false
-- the operations
def zand (x y : Int) : Int := (Int32.ofInt x &&& Int32.ofInt y).toInt
def zor (x y : Int) : Int := (Int32.ofInt x ||| Int32.ofInt y).toInt
def zxor (x y : Int) : Int := (Int32.ofInt x ^^^ Int32.ofInt y).toInt
def zshl (x y : Int) : Int := (Int32.ofInt x <<< (Int32.ofInt y &&& 31)).toInt
def zshr (x y : Int) : Int := (Int32.ofInt x >>> (Int32.ofInt y &&& 31)).toInt
def zushr (x y : Int) : Int := (((Int32.ofInt x).toUInt32 >>> ((Int32.ofInt y).toUInt32 &&& Int32.toUInt32 31)).toInt32).toInt
def zcmp (c : Jvm.ClassFile.Cond) (x y : Int) : Bool := match c with
  | .eq => decide (x = y)
  | .ne => decide (x ≠ y)
  | .lt => decide (x < y)
  | .ge => decide (y ≤ x)
  | .gt => decide (y < x)
  | .le => decide (x ≤ y)
def zjmp (pc : Nat) (off : Int) : Nat := ((pc : Int) + off).toNat
-- locals
def zfx (ls : List ZV) (j : Nat) : List ZV := match j with
  | 0 => ls
  | k + 1 => if zct (ls.getD k zU) = 2 then ls.set k zU else ls
def zs1 (ls : List ZV) (j : Nat) (v : ZV) : Option (List ZV) := if j < ls.length then some ((zfx ls j).set j v) else none
def zs2 (ls : List ZV) (j : Nat) (v : ZV) : Option (List ZV) := if j + 1 < ls.length then some (((zfx ls j).set j v).set (j + 1) zU) else none
def zent (mx : Nat) (as : List ZV) : List ZV := let l := as.flatMap (fun v => if zct v = 2 then [v, zU] else [v]); l ++ List.replicate (mx - l.length) zU
-- the tables
def zft (k pc : Nat) : Option (Nat × Instr) := ((zCodes.getD k []).find? (fun q => q.1 == pc)).map (·.2)
def zm (k : Nat) : Nat × MethodName × ByteArray × Nat × Option FieldType × Nat := zMs.getD k (0, ⟨"", "", ""⟩, code, 0, none, 0)
abbrev zown (k : Nat) : Nat := (zm k).1
abbrev zmax (k : Nat) : Nat := (zm k).2.2.2.1
abbrev zrty (k : Nat) : Option FieldType := (zm k).2.2.2.2.1
abbrev znA (k : Nat) : Nat := (zm k).2.2.2.2.2
def zini (k : Nat) : Bool := (zm k).2.1.name == "<init>"
def zky (o x : Nat) : Nat := o * 4096 + x
def zfk (ci k : Nat) : Nat := (zFk.getD ci []).getD k 3
def zat (t : ArrayType) : Nat := match t with
  | .int => 20
  | .char => 21
  | .boolean => 22
  | _ => 99
def zpush (pc : Nat) (ls st : List ZV) (h : ZH) (v : Option ZV) : Option (Nat × List ZV × List ZV × ZH) := v.map fun v => (pc, ls, v :: st, h)
def zgi (ls : List ZV) (j : Nat) : Option ZV := match ls[j]? with
  | some (.inl x) => some (.inl x)
  | _ => none
def zga (ls : List ZV) (j : Nat) : Option ZV := match ls[j]? with
  | some (.inr (.inl x)) => some (.inr (.inl x))
  | _ => none
def zgl (ls : List ZV) (j : Nat) : Option ZV := match ls[j]? with
  | some (.inr (.inr (.inl x))) => some (.inr (.inr (.inl x)))
  | _ => none
def zgd (ls : List ZV) (j : Nat) : Option ZV := match ls[j]? with
  | some (.inr (.inr (.inr (.inl x)))) => some (.inr (.inr (.inr (.inl x))))
  | _ => none
def zsi (pc : Nat) (ls st : List ZV) (h : ZH) (j : Nat) : Option (Nat × List ZV × List ZV × ZH) := match st with
  | .inl x :: st => (zs1 ls j (.inl x)).map fun l => (pc, l, st, h)
  | _ => none
def zsa (pc : Nat) (ls st : List ZV) (h : ZH) (j : Nat) : Option (Nat × List ZV × List ZV × ZH) := match st with
  | .inr (.inl x) :: st => (zs1 ls j (.inr (.inl x))).map fun l => (pc, l, st, h)
  | _ => none
def zsl (pc : Nat) (ls st : List ZV) (h : ZH) (j : Nat) : Option (Nat × List ZV × List ZV × ZH) := match st with
  | .inr (.inr (.inl x)) :: st => (zs2 ls j (.inr (.inr (.inl x)))).map fun l => (pc, l, st, h)
  | _ => none
def zsd (pc : Nat) (ls st : List ZV) (h : ZH) (j : Nat) : Option (Nat × List ZV × List ZV × ZH) := match st with
  | .inr (.inr (.inr (.inl x))) :: st => (zs2 ls j (.inr (.inr (.inr (.inl x))))).map fun l => (pc, l, st, h)
  | _ => none
def zbi (pc : Nat) (ls st : List ZV) (h : ZH) (f : Int → Int → Option Int) : Option (Nat × List ZV × List ZV × ZH) := match st with
  | .inl y :: .inl x :: st => (f x y).map fun v => (pc, ls, .inl v :: st, h)
  | _ => none
def zbl (pc : Nat) (ls st : List ZV) (h : ZH) (f : Int64 → Int64 → ZV) : Option (Nat × List ZV × List ZV × ZH) := match st with
  | .inr (.inr (.inl y)) :: .inr (.inr (.inl x)) :: st => some (pc, ls, f x y :: st, h)
  | _ => none
def znan (r : UInt64) : Option ZV := if r &&& 0x7fffffffffffffff ≤ 0x7ff0000000000000 then some (zD r) else none
def zbd (pc : Nat) (ls st : List ZV) (h : ZH) (f : UInt64 → UInt64 → Option ZV) : Option (Nat × List ZV × List ZV × ZH) := match st with
  | .inr (.inr (.inr (.inl y))) :: .inr (.inr (.inr (.inl x))) :: st => (f x y).map fun v => (pc, ls, v :: st, h)
  | _ => none
def zget (ci k pc : Nat) (ls st : List ZV) (h : ZH) : Option (Nat × List ZV × List ZV × ZH) := match st with
  | .inr (.inl a) :: st => if zkn h.1 a = ci then (if zfk ci k = 2 then (match zrf h.1 a k with
      | 0 => none
      | q + 1 => some (pc, ls, zR q :: st, h)) else some (pc, ls, zI (h.2 a k) :: st, h)) else none
  | _ => none
def zput (ci k pc : Nat) (ls st : List ZV) (h : ZH) : Option (Nat × List ZV × List ZV × ZH) := match st with
  | .inl x :: .inr (.inl a) :: st => if zkn h.1 a = ci ∧ (zfk ci k = 0 ∨ zfk ci k = 1 ∧ (x = 0 ∨ x = 1)) then some (pc, ls, st, (h.1, zwr h.2 a k x)) else none
  | .inr (.inl v) :: .inr (.inl a) :: st => if zkn h.1 a = ci ∧ zfk ci k = 2 ∧ v < h.1.length then some (pc, ls, st, (zsr h.1 a k (v + 1), h.2)) else none
  | _ => none
def zald (kd pc : Nat) (ls st : List ZV) (h : ZH) : Option (Nat × List ZV × List ZV × ZH) := match st with
  | .inl i :: .inr (.inl a) :: st => if zkn h.1 a = kd ∧ 0 ≤ i ∧ i < (zln h.1 a : Int) then some (pc, ls, zI (h.2 a i) :: st, h) else none
  | _ => none
def zsld (pc : Nat) (ls st : List ZV) (h : ZH) : Option (Nat × List ZV × List ZV × ZH) := match st with
  | .inl i :: .inr (.inl a) :: st => if a = zSC then (if 0 ≤ i ∧ i < h.2 zSC (-1) - 1 then some (pc, ls, zI (h.2 zSC i) :: st, h) else none) else none
  | _ => none
def zast (kd pc : Nat) (ls st : List ZV) (h : ZH) (ok : Int → Bool) : Option (Nat × List ZV × List ZV × ZH) := match st with
  | .inl x :: .inl i :: .inr (.inl a) :: st => if zkn h.1 a = kd ∧ (0 ≤ i ∧ i < (zln h.1 a : Int)) ∧ ok x = true then some (pc, ls, st, (h.1, zwr h.2 a i x)) else none
  | _ => none
def zaal (pc : Nat) (ls st : List ZV) (h : ZH) : Option (Nat × List ZV × List ZV × ZH) := match st with
  | .inl i :: .inr (.inl a) :: st => if (zkn h.1 a = 23 ∨ zkn h.1 a = 24) ∧ 0 ≤ i ∧ i < (zln h.1 a : Int) then (match zrf h.1 a i.toNat with
      | 0 => none
      | q + 1 => some (pc, ls, zR q :: st, h)) else none
  | _ => none
def zaas (pc : Nat) (ls st : List ZV) (h : ZH) : Option (Nat × List ZV × List ZV × ZH) := match st with
  | .inr (.inl v) :: .inl i :: .inr (.inl a) :: st => if zkn h.1 a = 23 ∧ zkn h.1 v = 1 ∧ 0 ≤ i ∧ i < (zln h.1 a : Int) then some (pc, ls, st, (zsr h.1 a i.toNat (v + 1), h.2)) else none
  | _ => none
def zalen (pc : Nat) (ls st : List ZV) (h : ZH) : Option (Nat × List ZV × List ZV × ZH) := match st with
  | .inr (.inl a) :: st => if a = zSC then (if 1 ≤ h.2 zSC (-1) then some (pc, ls, zI (h.2 zSC (-1) - 1) :: st, h) else none) else if 20 ≤ zkn h.1 a ∧ zkn h.1 a < 25 then some (pc, ls, zI (zln h.1 a) :: st, h) else none
  | _ => none
def znew (ci pc : Nat) (ls st : List ZV) (h : ZH) : Option (Nat × List ZV × List ZV × ZH) := if 2000 ≤ h.1.length then none else some (pc, ls, zR h.1.length :: st, (h.1 ++ [(ci, (zFk.getD ci []).length, List.replicate (zFk.getD ci []).length 0)], zzr h.2 h.1.length 0))
def znwa (kd pc : Nat) (ls st : List ZV) (h : ZH) : Option (Nat × List ZV × List ZV × ZH) := match st with
  | .inl c :: st => if (0 ≤ c ∧ c ≤ 1000) ∧ h.1.length < 2000 then some (pc, ls, zR h.1.length :: st, (h.1 ++ [(kd, c.toNat, List.replicate c.toNat 0)], zzr h.2 h.1.length 0)) else none
  | _ => none
def zmna (pc : Nat) (ls st : List ZV) (h : ZH) : Option (Nat × List ZV × List ZV × ZH) := match st with
  | .inl c :: .inl r :: st => if (0 ≤ c ∧ c ≤ 1000) ∧ (0 ≤ r ∧ r ≤ 100) ∧ h.1.length < 2000 then some (pc, ls, zR h.1.length :: st, (h.1 ++ ((24, r.toNat, (List.range r.toNat).map (fun i => h.1.length + 1 + i + 1)) :: List.replicate r.toNat (20, c.toNat, List.replicate c.toNat 0)), zzr h.2 h.1.length r.toNat)) else none
  | _ => none
/-- the bits of a double; Math.abs, max, min of ints -/
def znat (kd pc : Nat) (ls st : List ZV) (h : ZH) : Option (Nat × List ZV × List ZV × ZH) := match kd with
  | 7 => match st with
    | .inr (.inr (.inr (.inl x))) :: st => some (pc, ls, zL x.toInt64 :: st, h)
    | _ => none
  | 8 => match st with
    | .inl x :: st => some (pc, ls, zI (if 0 ≤ x then x else zw (0 - x)) :: st, h)
    | _ => none
  | 9 => match st with
    | .inl y :: .inl x :: st => some (pc, ls, zI (if x < y then y else x) :: st, h)
    | _ => none
  | 10 => match st with
    | .inl y :: .inl x :: st => some (pc, ls, zI (if y < x then y else x) :: st, h)
    | _ => none
  | _ => none
/-- one step of an instruction that is no call and no return -/
def zex (o : Nat) (i : Instr) (pc n : Nat) (ls st : List ZV) (h : ZH) : Option (Nat × List ZV × List ZV × ZH) := match i with
  | .iconst c => some (pc + n, ls, zI c :: st, h)
  | .bipush c => some (pc + n, ls, zI c :: st, h)
  | .sipush c => some (pc + n, ls, zI c :: st, h)
  | .ldc x => (zKi.lookup (zky o x)).map fun v => (pc + n, ls, zI v :: st, h)
  | .ldc_w x => (zKi.lookup (zky o x)).map fun v => (pc + n, ls, zI v :: st, h)
  | .lconst c => some (pc + n, ls, zL (Int64.ofNat c) :: st, h)
  | .ldc2_w x => match zKl.lookup (zky o x) with
    | some v => some (pc + n, ls, zL v :: st, h)
    | none => (zKd.lookup (zky o x)).map fun v => (pc + n, ls, zD v :: st, h)
  | .dconst d => if d = 1 then some (pc + n, ls, zD FP.dconst1 :: st, h) else none
  | .iload j => zpush (pc + n) ls st h (zgi ls j)
  | .iload_n j => zpush (pc + n) ls st h (zgi ls j)
  | .aload j => zpush (pc + n) ls st h (zga ls j)
  | .aload_n j => zpush (pc + n) ls st h (zga ls j)
  | .lload j => zpush (pc + n) ls st h (zgl ls j)
  | .dload_n j => zpush (pc + n) ls st h (zgd ls j)
  | .istore j => zsi (pc + n) ls st h j
  | .istore_n j => zsi (pc + n) ls st h j
  | .astore_n j => zsa (pc + n) ls st h j
  | .lstore j => zsl (pc + n) ls st h j
  | .dstore_n j => zsd (pc + n) ls st h j
  | .iinc j c => match ls[j]? with
    | some (.inl x) => (zs1 ls j (.inl (zw (x + c)))).map fun l => (pc + n, l, st, h)
    | _ => none
  | .getfield x => (zFl.lookup (zky o x)).bind fun q => zget q.1 q.2 (pc + n) ls st h
  | .putfield x => (zFl.lookup (zky o x)).bind fun q => zput q.1 q.2 (pc + n) ls st h
  | .iaload => match zald 20 (pc + n) ls st h with
    | some r => some r
    | none => zsld (pc + n) ls st h
  | .caload => zald 21 (pc + n) ls st h
  | .baload => zald 22 (pc + n) ls st h
  | .aaload => zaal (pc + n) ls st h
  | .iastore => zast 20 (pc + n) ls st h (fun _ => true)
  | .castore => zast 21 (pc + n) ls st h (fun x => decide (0 ≤ x ∧ x < 65536))
  | .bastore => zast 22 (pc + n) ls st h (fun x => decide (x = 0 ∨ x = 1))
  | .aastore => zaas (pc + n) ls st h
  | .arraylength => zalen (pc + n) ls st h
  | .dup => match st with
    | v :: st => if zc1 v = true then some (pc + n, ls, v :: v :: st, h) else none
    | _ => none
  | .dup2 => match st with
    | v :: w :: st => if zc1 v = true ∧ zc1 w = true then some (pc + n, ls, v :: w :: v :: w :: st, h) else none
    | _ => none
  | .pop => match st with
    | v :: st => if zc1 v = true then some (pc + n, ls, st, h) else none
    | _ => none
  | .iadd => zbi (pc + n) ls st h (fun x y => some (zw (x + y)))
  | .isub => zbi (pc + n) ls st h (fun x y => some (zw (x - y)))
  | .imul => zbi (pc + n) ls st h (fun x y => some (zw (x * y)))
  | .idiv => zbi (pc + n) ls st h (fun x y => if y = 0 then none else some (zw (x.tdiv y)))
  | .irem => zbi (pc + n) ls st h (fun x y => if y = 0 then none else some (x.tmod y))
  | .iand => zbi (pc + n) ls st h (fun x y => some (zand x y))
  | .ior => zbi (pc + n) ls st h (fun x y => some (zor x y))
  | .ixor => zbi (pc + n) ls st h (fun x y => some (zxor x y))
  | .ishl => zbi (pc + n) ls st h (fun x y => some (zshl x y))
  | .ishr => zbi (pc + n) ls st h (fun x y => some (zshr x y))
  | .iushr => zbi (pc + n) ls st h (fun x y => some (zushr x y))
  | .ineg => match st with
    | .inl x :: st => some (pc + n, ls, zI (zw (-x)) :: st, h)
    | _ => none
  | .i2c => match st with
    | .inl x :: st => if 0 ≤ x ∧ x < 65536 then some (pc + n, ls, zI x :: st, h) else none
    | _ => none
  | .i2d => match st with
    | .inl x :: st => some (pc + n, ls, zD (FP.i2d (Int32.ofInt x)) :: st, h)
    | _ => none
  | .d2l => match st with
    | .inr (.inr (.inr (.inl x))) :: st => some (pc + n, ls, zL (FP.d2l x) :: st, h)
    | _ => none
  | .ladd => zbl (pc + n) ls st h (fun x y => zL (x + y))
  | .lor => zbl (pc + n) ls st h (fun x y => zL (x ||| y))
  | .lcmp => zbl (pc + n) ls st h (fun x y => zI (lg_cmp x y).toInt)
  | .lshl => match st with
    | .inl y :: .inr (.inr (.inl x)) :: st => some (pc + n, ls, zL (x <<< ((Int32.ofInt y).toInt64 &&& 63)) :: st, h)
    | _ => none
  | .dsub => zbd (pc + n) ls st h (fun x y => znan (FP.dsub x y))
  | .dmul => zbd (pc + n) ls st h (fun x y => znan (FP.dmul x y))
  | .ddiv => zbd (pc + n) ls st h (fun x y => znan (FP.ddiv x y))
  | .dcmp c => zbd (pc + n) ls st h (fun x y => some (zI (Op.cmpValue (FP.dcmp x y) c).toInt))
  | .ifCond c off => match st with
    | .inl x :: st => some (if zcmp c x 0 = true then zjmp pc off else pc + n, ls, st, h)
    | _ => none
  | .if_icmp c off => match st with
    | .inl y :: .inl x :: st => some (if zcmp c x y = true then zjmp pc off else pc + n, ls, st, h)
    | _ => none
  | .goto off => some (zjmp pc off, ls, st, h)
  | .tableswitch d lo hi offs => match st with
    | .inl x :: st => if x < lo ∨ hi < x then some (zjmp pc d, ls, st, h) else (offs[(x - lo).toNat]?).map fun f => (zjmp pc f, ls, st, h)
    | _ => none
  | .lookupswitch d ps => match st with
    | .inl x :: st => some (zjmp pc (Op.lookupswitch.offset ps.toList d x), ls, st, h)
    | _ => none
  | .new x => (zNl.lookup (zky o x)).bind fun ci => znew ci (pc + n) ls st h
  | .newarray t => znwa (zat t) (pc + n) ls st h
  | .anewarray x => if zky o x = 16395 then znwa 23 (pc + n) ls st h else none
  | .multianewarray x d => if zky o x = 28693 ∧ d = 2 then zmna (pc + n) ls st h else none
  | .invokespecial x => if zMl.lookup (zky o x) = some (0, 6) ∧ (st.map zct).sum ≤ 12 then (match st with
      | .inr (.inl _) :: st => some (pc + n, ls, st, h)
      | _ => none) else none
  | .invokestatic x => (zMl.lookup (zky o x)).bind fun q => if (st.map zct).sum ≤ 12 then znat q.2 (pc + n) ls st h else none
  | _ => none
/-- a call: the method and its kind -/
def zcal (o : Nat) (i : Instr) : Option (Nat × Nat) := match i with
  | .invokevirtual x => (zMl.lookup (zky o x)).bind fun q => if q.2 = 0 then some q else none
  | .invokestatic x => (zMl.lookup (zky o x)).bind fun q => if q.2 = 1 ∨ q.2 = 4 then some q else none
  | .invokespecial x => (zMl.lookup (zky o x)).bind fun q => if q.2 = 2 ∨ q.2 = 5 then some q else none
  | _ => none
/-- a return -/
def zret (k : Nat) (i : Instr) (st : List ZV) : Option (Option ZV) := match i with
  | .ireturn => match st with
    | [.inl x] => if zrty k = some .int ∨ zrty k = some .boolean ∧ (x = 0 ∨ x = 1) then some (some (zI x)) else none
    | _ => none
  | .lreturn => match st with
    | [.inr (.inr (.inl x))] => if zrty k = some .long then some (some (zL x)) else none
    | _ => none
  | .return_ => match st with
    | [] => if zrty k = none then some none else none
    | _ => none
  | _ => none
/-- the receiver of a virtual call is of the method's class -/
def zrcv (k kd : Nat) (as : List ZV) (h : ZH) : Bool := match kd with
  | 1 => true
  | 4 => true
  | _ => match as with
    | .inr (.inl a) :: _ => zkn h.1 a == zown k
    | _ => false
def zgo (cal : Nat → List ZV → ZH → ZO) (k : Nat) (rec : Nat → List ZV → List ZV → ZH → ZO) (pc : Nat) (ls st : List ZV) (h : ZH) : ZO := match zft k pc with
  | none => none
  | some (n, i) => match zret k i st with
    | some v => some (v, h)
    | none => match zcal (zown k) i with
      | some (k', kd) => if znA k' ≤ st.length ∧ ((st.drop (znA k')).map zct).sum ≤ 8 ∧ zrcv k' kd (st.take (znA k')).reverse h = true then (cal k' (st.take (znA k')).reverse h).bind (fun r => rec (pc + n) ls (r.1.toList ++ st.drop (znA k')) r.2) else none
      | none => (zex (zown k) i pc n ls st h).bind fun r => rec r.1 r.2.1 r.2.2.1 r.2.2.2
def zrn (cal : Nat → List ZV → ZH → ZO) (k : Nat) : Nat → Nat → List ZV → List ZV → ZH → ZO
  | 0 => fun _ _ _ _ => none
  | n + 1 => zgo cal k (zrn cal k n)
theorem zgo_mono {cal cal' : Nat → List ZV → ZH → ZO} {k : Nat} {f g : Nat → List ZV → List ZV → ZH → ZO} (hc : ∀ a b c r, cal a b c = some r → cal' a b c = some r) (hf : ∀ a b c d r, f a b c d = some r → g a b c d = some r) {pc : Nat} {ls st : List ZV} {h : ZH} {r : Option ZV × ZH} (e : zgo cal k f pc ls st h = some r) : zgo cal' k g pc ls st h = some r := by
  unfold zgo at *
  split at e
  · cases e
  · split at e
    · exact e
    · split at e
      · split at e
        · next hh =>
          rw [if_pos hh]
          obtain ⟨x, h1, h2⟩ := Option.bind_eq_some_iff.mp e
          rw [hc _ _ _ _ h1]
          exact hf _ _ _ _ _ h2
        · cases e
      · obtain ⟨x, h1, h2⟩ := Option.bind_eq_some_iff.mp e
        rw [h1]
        exact hf _ _ _ _ _ h2
theorem zrn_mono {cal cal' : Nat → List ZV → ZH → ZO} {k : Nat} (hc : ∀ a b c r, cal a b c = some r → cal' a b c = some r) : ∀ (n : Nat) (pc : Nat) (ls st : List ZV) (h : ZH) (r : Option ZV × ZH), zrn cal k n pc ls st h = some r → zrn cal' k n pc ls st h = some r
  | 0, _, _, _, _, _, e => by cases e
  | n + 1, _, _, _, _, _, e => zgo_mono hc (zrn_mono hc n) e
theorem zrn_succ {cal : Nat → List ZV → ZH → ZO} {k : Nat} : ∀ (n : Nat) (pc : Nat) (ls st : List ZV) (h : ZH) (r : Option ZV × ZH), zrn cal k n pc ls st h = some r → zrn cal k (n + 1) pc ls st h = some r
  | 0, _, _, _, _, _, e => by cases e
  | n + 1, _, _, _, _, _, e => zgo_mono (fun _ _ _ _ e => e) (zrn_succ n) e
theorem zrn_le {cal : Nat → List ZV → ZH → ZO} {k n m : Nat} (hl : n ≤ m) {pc : Nat} {ls st : List ZV} {h : ZH} {r : Option ZV × ZH} (e : zrn cal k n pc ls st h = some r) : zrn cal k m pc ls st h = some r := by
  induction hl with
  | refl => exact e
  | step _ ih => exact zrn_succ _ _ _ _ _ _ ih
/-- what a method's run comes to, from an instruction on -/
noncomputable def zrun (cal : Nat → List ZV → ZH → ZO) (k pc : Nat) (ls st : List ZV) (h : ZH) : ZO :=
  @dite _ (∃ n, (zrn cal k n pc ls st h).isSome = true) (Classical.propDecidable _) (fun hh => zrn cal k (Classical.choose hh) pc ls st h) (fun _ => none)
theorem zrun_of {cal : Nat → List ZV → ZH → ZO} {k n pc : Nat} {ls st : List ZV} {h : ZH} {r : Option ZV × ZH} (e : zrn cal k n pc ls st h = some r) : zrun cal k pc ls st h = some r := by
  have hh : ∃ n, (zrn cal k n pc ls st h).isSome = true := ⟨n, by rw [e]; rfl⟩
  unfold zrun
  rw [dif_pos hh]
  have h2 := Classical.choose_spec hh
  generalize Classical.choose hh = m at h2 ⊢
  obtain ⟨r', hr'⟩ := Option.isSome_iff_exists.mp h2
  rcases Nat.le_total n m with q | q
  · exact zrn_le q e
  · rw [hr', ← zrn_le q hr', e]
theorem zrun_some {cal : Nat → List ZV → ZH → ZO} {k pc : Nat} {ls st : List ZV} {h : ZH} {r : Option ZV × ZH} (e : zrun cal k pc ls st h = some r) : ∃ n, zrn cal k n pc ls st h = some r := by
  unfold zrun at e
  split at e
  · exact ⟨_, e⟩
  · cases e
theorem zrun_none {cal : Nat → List ZV → ZH → ZO} {k pc : Nat} {ls st : List ZV} {h : ZH} (e : zrun cal k pc ls st h = none) (n : Nat) : zrn cal k n pc ls st h = none := by
  cases hx : zrn cal k n pc ls st h with
  | none => rfl
  | some r => rw [zrun_of hx] at e; cases e
theorem zrun_eq {cal : Nat → List ZV → ZH → ZO} {k pc : Nat} {ls st : List ZV} {h : ZH} : zrun cal k pc ls st h = zgo cal k (zrun cal k) pc ls st h := by
  cases e : zgo cal k (zrun cal k) pc ls st h with
  | some r =>
    have : ∃ n, zgo cal k (zrn cal k n) pc ls st h = some r := by
      unfold zgo at *
      split at e
      · cases e
      · split at e
        · exact ⟨0, e⟩
        · split at e
          · split at e
            · next hh =>
              obtain ⟨x, h1, h2⟩ := Option.bind_eq_some_iff.mp e
              obtain ⟨n, hn⟩ := zrun_some h2
              exact ⟨n, by rw [if_pos hh, h1]; exact hn⟩
            · cases e
          · obtain ⟨x, h1, h2⟩ := Option.bind_eq_some_iff.mp e
            obtain ⟨n, hn⟩ := zrun_some h2
            exact ⟨n, by rw [h1]; exact hn⟩
    obtain ⟨n, hn⟩ := this
    exact zrun_of (n := n + 1) hn
  | none =>
    cases e2 : zrun cal k pc ls st h with
    | none => rfl
    | some r =>
      obtain ⟨n, hn⟩ := zrun_some e2
      cases n with
      | zero => cases hn
      | succ n =>
        have h3 := zgo_mono (cal' := cal) (g := zrun cal k) (fun _ _ _ _ e => e) (fun a b c d r q => zrun_of q) hn
        rw [e] at h3
        cases h3
/-- a method at depth d -/
noncomputable def zevl : Nat → Nat → List ZV → ZH → ZO
  | 0 => fun _ _ _ => none
  | d + 1 => fun k as h => if (as.flatMap (fun v => if zct v = 2 then [v, zU] else [v])).length ≤ zmax k then zrun (zevl d) k 0 (zent (zmax k) as) [] h else none
/-- the same, by counting -/
def zevn (n : Nat) : Nat → Nat → List ZV → ZH → ZO
  | 0 => fun _ _ _ => none
  | d + 1 => fun k as h => if (as.flatMap (fun v => if zct v = 2 then [v, zU] else [v])).length ≤ zmax k then zrn (zevn n d) k n 0 (zent (zmax k) as) [] h else none
theorem zevn_evl (n : Nat) : ∀ (d k : Nat) (as : List ZV) (h : ZH) (r : Option ZV × ZH), zevn n d k as h = some r → zevl d k as h = some r
  | 0, _, _, _, _, e => by cases e
  | d + 1, k, as, h, r, e => by
    unfold zevn at e
    unfold zevl
    split at e
    · next hh =>
      rw [if_pos hh]
      exact zrun_of (zrn_mono (zevn_evl n d) n _ _ _ _ _ e)
    · cases e
theorem zevl_succ : ∀ (d k : Nat) (as : List ZV) (h : ZH) (r : Option ZV × ZH), zevl d k as h = some r → zevl (d + 1) k as h = some r
  | 0, _, _, _, _, e => by cases e
  | d + 1, k, as, h, r, e => by
    unfold zevl at e ⊢
    split at e
    · next hh =>
      rw [if_pos hh]
      obtain ⟨n, hn⟩ := zrun_some e
      exact zrun_of (zrn_mono (zevl_succ d) n _ _ _ _ _ hn)
    · cases e
end
section
/-! what every step keeps: ints in range, shapes of the right lengths, no cell lost -/
def zrg (n : Int) : Prop := -2147483648 ≤ n ∧ n < 2147483648
def zok (v : ZV) : Prop := match v with
  | .inl n => zrg n
  | _ => True
def zoks (l : List ZV) : Prop := ∀ v, v ∈ l → zok v
def zcok (c : Nat × Nat × List Nat) : Prop := c.2.2.length = c.2.1 ∧ (c.1 < 20 → c.1 < 11 ∧ c.2.1 = (zFk.getD c.1 []).length) ∧ c.1 < 25 ∧ c.2.1 ≤ 1000
def zinv (h : ZH) : Prop := (∀ c, c ∈ h.1 → zcok c) ∧ (∀ a i, zrg (h.2 a i)) ∧ h.1.length ≤ 3000
def ztot (s : ZS) : Nat := (s.map (fun c => c.2.1)).sum
def zle (h h' : ZH) : Prop := h.1.length ≤ h'.1.length ∧ ztot h.1 ≤ ztot h'.1 ∧ ∀ j, h'.2 zSC j = h.2 zSC j
/-- an instruction's length and its constant are as they must be -/
def zstat (i : Instr) (n : Nat) : Bool := match i with
  | .iconst c => decide (-1 ≤ c ∧ c ≤ 5) && n == 1
  | .bipush c => decide (-128 ≤ c ∧ c < 128) && n == 2
  | .sipush c => decide (-32768 ≤ c ∧ c < 32768) && n == 3
  | .iinc _ c => decide (-128 ≤ c ∧ c < 128) && n == 3
  | .ldc _ => n == 2
  | .ldc_w _ => n == 3
  | .ldc2_w _ => n == 3
  | .iload _ => n == 2
  | .aload _ => n == 2
  | .lload _ => n == 2
  | .istore _ => n == 2
  | .lstore _ => n == 2
  | .getfield _ => n == 3
  | .putfield _ => n == 3
  | .ifCond _ _ => n == 3
  | .if_icmp _ _ => n == 3
  | .goto _ => n == 3
  | .tableswitch _ _ _ _ => true
  | .lookupswitch _ ps => (ps.toList.zip (ps.toList.drop 1)).all (fun q => decide (q.1.1 < q.2.1))
  | .new _ => n == 3
  | .newarray t => n == 2 && decide (zat t < 99)
  | .anewarray _ => n == 3
  | .multianewarray _ _ => n == 4
  | .invokevirtual _ => n == 3
  | .invokestatic _ => n == 3
  | .invokespecial _ => n == 3
  | _ => n == 1
theorem zstat_all : zCodes.all (fun c => c.all (fun q => zstat q.2.2 q.2.1)) = true := by decide +kernel
theorem zft_mem {k pc n : Nat} {i : Instr} (h : zft k pc = some (n, i)) : (pc, n, i) ∈ zCodes.getD k [] := by
  unfold zft at h
  obtain ⟨q, hq, he⟩ := Option.map_eq_some_iff.mp h
  have h1 := List.find?_some hq
  have h2 := List.mem_of_find?_eq_some hq
  obtain ⟨a, b⟩ := q
  simp only [beq_iff_eq] at h1
  subst h1
  simp only at he
  rw [← he]
  exact h2
theorem zft_stat {k pc n : Nat} {i : Instr} (h : zft k pc = some (n, i)) : zstat i n = true := by
  have h1 := zft_mem h
  by_cases hk : k < zCodes.length
  · rw [List.getD_eq_getElem?_getD, List.getElem?_eq_getElem hk, Option.getD_some] at h1
    exact List.all_eq_true.mp (List.all_eq_true.mp zstat_all _ (List.getElem_mem hk)) _ h1
  · rw [List.getD_eq_getElem?_getD, List.getElem?_eq_none (by omega), Option.getD_none] at h1
    cases h1
theorem zrg_w (x : Int) : zrg (zw x) := by unfold zrg zw; omega
theorem zrg_i (x : Int32) : zrg x.toInt := ⟨by have := Int32.le_toInt x; omega, by have := Int32.toInt_lt x; omega⟩
theorem zlook_mem {α β : Type} [BEq α] [LawfulBEq α] {l : List (α × β)} {a : α} {b : β} (h : l.lookup a = some b) : (a, b) ∈ l := by
  induction l with
  | nil => cases h
  | cons q l ih =>
    obtain ⟨x, y⟩ := q
    rw [List.lookup_cons] at h
    split at h
    · next hh =>
      rw [eq_of_beq hh]
      cases h
      exact List.mem_cons_self
    · exact List.mem_cons_of_mem _ (ih h)
theorem zKi_rg {x : Nat} {v : Int} (h : zKi.lookup x = some v) : zrg v := by
  have h1 : ∀ q ∈ zKi, -2147483648 ≤ q.2 ∧ q.2 < 2147483648 := by decide +kernel
  exact h1 _ (zlook_mem h)
theorem zNl_ok {x ci : Nat} (h : zNl.lookup x = some ci) : ci < 11 := by
  have h1 : ∀ q ∈ zNl, q.2 < 11 := by decide +kernel
  exact h1 _ (zlook_mem h)
theorem zoks_c {v : ZV} {l : List ZV} (h : zoks (v :: l)) : zok v ∧ zoks l := ⟨h v List.mem_cons_self, fun w hw => h w (List.mem_cons_of_mem _ hw)⟩
theorem zoks_k {v : ZV} {l : List ZV} (h : zok v) (h1 : zoks l) : zoks (v :: l) := fun w hw => by
  rcases List.mem_cons.mp hw with rfl | hw
  · exact h
  · exact h1 w hw
theorem zoks_set {l : List ZV} (h : zoks l) (j : Nat) {v : ZV} (hv : zok v) : zoks (l.set j v) := fun w hw => by
  rcases List.mem_or_eq_of_mem_set hw with hw | rfl
  · exact h w hw
  · exact hv
theorem zoks_fx {l : List ZV} (h : zoks l) (j : Nat) : zoks (zfx l j) := by
  unfold zfx
  split
  · exact h
  · split
    · exact zoks_set h _ trivial
    · exact h
theorem zoks_s1 {l l' : List ZV} {j : Nat} {v : ZV} (h : zoks l) (hv : zok v) (e : zs1 l j v = some l') : zoks l' := by
  unfold zs1 at e
  split at e
  · cases e; exact zoks_set (zoks_fx h j) j hv
  · cases e
theorem zoks_s2 {l l' : List ZV} {j : Nat} {v : ZV} (h : zoks l) (hv : zok v) (e : zs2 l j v = some l') : zoks l' := by
  unfold zs2 at e
  split at e
  · cases e; exact zoks_set (zoks_set (zoks_fx h j) j hv) _ trivial
  · cases e
theorem zinv_wr {h : ZH} (hi : zinv h) (a : Nat) (i : Int) {v : Int} (hv : zrg v) : zinv (h.1, zwr h.2 a i v) := ⟨hi.1, fun b j => by
  show zrg (zwr h.2 a i v b j)
  unfold zwr
  split
  · exact hv
  · exact hi.2.1 b j, hi.2.2⟩
theorem zkn_lt {s : ZS} {a : Nat} (h : zkn s a < 99) : a < s.length := by
  by_cases hl : a < s.length
  · exact hl
  · unfold zkn at h
    rw [List.getD_eq_getElem?_getD, List.getElem?_eq_none (by omega), Option.getD_none] at h
    exact absurd h (by decide)
theorem zget_mem {s : ZS} {a : Nat} (h : a < s.length) : s.getD a (99, 0, []) ∈ s := by
  rw [List.getD_eq_getElem?_getD, List.getElem?_eq_getElem h, Option.getD_some]
  exact List.getElem_mem h
theorem zinv_sr {h : ZH} (hi : zinv h) {a : Nat} (k v : Nat) (ha : a < h.1.length) : zinv (zsr h.1 a k v, h.2) := ⟨fun c hc => by
  rcases List.mem_or_eq_of_mem_set hc with hc | rfl
  · exact hi.1 c hc
  · have := hi.1 _ (zget_mem ha)
    exact ⟨by rw [List.length_set]; exact this.1, this.2⟩, hi.2.1, by simp [zsr]; exact hi.2.2⟩
theorem ztot_set {s : ZS} {a : Nat} {c : Nat × Nat × List Nat} (h : c.2.1 = (s.getD a (99, 0, [])).2.1) : ztot (s.set a c) = ztot s := by
  unfold ztot
  rw [List.map_set]
  by_cases hl : a < s.length
  · have e : (s.map (fun c => c.2.1)).set a c.2.1 = s.map (fun c => c.2.1) := by
      refine List.ext_getElem (by simp) fun i h1 h2 => ?_
      rw [List.getElem_set]
      split
      · next hh =>
        subst hh
        rw [h, List.getD_eq_getElem?_getD, List.getElem?_eq_getElem hl]
        simp
      · rfl
    rw [e]
  · rw [List.set_eq_of_length_le (by simp; omega)]
theorem zle_sr {h : ZH} (a k v : Nat) : zle h (zsr h.1 a k v, h.2) := ⟨by simp [zsr], by rw [show ztot (zsr h.1 a k v) = ztot h.1 from ztot_set rfl]; exact Nat.le_refl _, fun _ => rfl⟩
theorem zle_rf (h : ZH) : zle h h := ⟨Nat.le_refl _, Nat.le_refl _, fun _ => rfl⟩
theorem zle_wr {h : ZH} (hi : zinv h) {a : Nat} (ha : a < h.1.length) (i v : Int) : zle h (h.1, zwr h.2 a i v) := ⟨Nat.le_refl _, Nat.le_refl _, fun j => by
  have := hi.2.2
  show zwr h.2 a i v zSC j = _
  unfold zwr
  rw [if_neg (fun q => by have := q.1; unfold zSC at this; omega)]⟩
theorem zle_tr {a b c : ZH} (h1 : zle a b) (h2 : zle b c) : zle a c := ⟨Nat.le_trans h1.1 h2.1, Nat.le_trans h1.2.1 h2.2.1, fun j => (h2.2.2 j).trans (h1.2.2 j)⟩
theorem zle_app {h : ZH} (hi : zinv h) (t : ZS) {a c : Nat} (hc : a + c ≤ 4000) : zle h (h.1 ++ t, zzr h.2 a c) := ⟨by simp, by unfold ztot; simp, fun j => by
  show zzr h.2 a c zSC j = _
  unfold zzr
  rw [if_neg (fun q => by have := q.2; unfold zSC at this; omega)]⟩
theorem zrg_0 : zrg 0 := ⟨by decide, by decide⟩
theorem zinv_app {h : ZH} (hi : zinv h) {t : ZS} (ht : ∀ c, c ∈ t → zcok c) (hn : h.1.length + t.length ≤ 3000) (a c : Nat) : zinv (h.1 ++ t, zzr h.2 a c) := ⟨fun c hc => (List.mem_append.mp hc).elim (hi.1 c) (ht c), fun b j => by
  show zrg (zzr h.2 a c b j)
  unfold zzr
  split
  · exact zrg_0
  · exact hi.2.1 b j, by rw [List.length_append]; exact hn⟩
theorem zrg_if {c : Prop} [Decidable c] {x y : Int} (hx : zrg x) (hy : zrg y) : zrg (if c then x else y) := by split <;> assumption
def zgood (r : Nat × List ZV × List ZV × ZH) (h : ZH) : Prop := zoks r.2.1 ∧ zoks r.2.2.1 ∧ zinv r.2.2.2 ∧ zle h r.2.2.2
section
variable {o pc n j ci k kd : Nat} {ls st : List ZV} {h : ZH} {r : Nat × List ZV × List ZV × ZH}
theorem zg_push {v : Option ZV} (hl : zoks ls) (hs : zoks st) (hi : zinv h) (hv : ∀ x, v = some x → zok x) (e : zpush pc ls st h v = some r) : zgood r h := by
  obtain ⟨x, h1, rfl⟩ := Option.map_eq_some_iff.mp e
  exact ⟨hl, zoks_k (hv x h1) hs, hi, zle_rf h⟩
theorem zg_gi {v : ZV} (hl : zoks ls) (e : zgi ls j = some v) : zok v := by
  unfold zgi at e
  split at e
  · next hh => cases e; exact hl _ (List.mem_of_getElem? hh)
  · cases e
theorem zg_ga {v : ZV} (e : zga ls j = some v) : zok v := by
  unfold zga at e
  split at e
  · cases e; trivial
  · cases e
theorem zg_gl {v : ZV} (e : zgl ls j = some v) : zok v := by
  unfold zgl at e
  split at e
  · cases e; trivial
  · cases e
theorem zg_gd {v : ZV} (e : zgd ls j = some v) : zok v := by
  unfold zgd at e
  split at e
  · cases e; trivial
  · cases e
theorem zg_si (hl : zoks ls) (hs : zoks st) (hi : zinv h) (e : zsi pc ls st h j = some r) : zgood r h := by
  unfold zsi at e
  split at e
  · obtain ⟨l, h1, rfl⟩ := Option.map_eq_some_iff.mp e
    exact ⟨zoks_s1 hl (zoks_c hs).1 h1, (zoks_c hs).2, hi, zle_rf h⟩
  · cases e
theorem zg_sa (hl : zoks ls) (hs : zoks st) (hi : zinv h) (e : zsa pc ls st h j = some r) : zgood r h := by
  unfold zsa at e
  split at e
  · obtain ⟨l, h1, rfl⟩ := Option.map_eq_some_iff.mp e
    exact ⟨zoks_s1 hl (zoks_c hs).1 h1, (zoks_c hs).2, hi, zle_rf h⟩
  · cases e
theorem zg_sl (hl : zoks ls) (hs : zoks st) (hi : zinv h) (e : zsl pc ls st h j = some r) : zgood r h := by
  unfold zsl at e
  split at e
  · obtain ⟨l, h1, rfl⟩ := Option.map_eq_some_iff.mp e
    exact ⟨zoks_s2 hl (zoks_c hs).1 h1, (zoks_c hs).2, hi, zle_rf h⟩
  · cases e
theorem zg_sd (hl : zoks ls) (hs : zoks st) (hi : zinv h) (e : zsd pc ls st h j = some r) : zgood r h := by
  unfold zsd at e
  split at e
  · obtain ⟨l, h1, rfl⟩ := Option.map_eq_some_iff.mp e
    exact ⟨zoks_s2 hl (zoks_c hs).1 h1, (zoks_c hs).2, hi, zle_rf h⟩
  · cases e
theorem zg_bi {f : Int → Int → Option Int} (hl : zoks ls) (hs : zoks st) (hi : zinv h) (hf : ∀ x y v, zrg x → zrg y → f x y = some v → zrg v) (e : zbi pc ls st h f = some r) : zgood r h := by
  unfold zbi at e
  split at e
  · obtain ⟨l, h1, rfl⟩ := Option.map_eq_some_iff.mp e
    have q1 := zoks_c hs
    have q2 := zoks_c q1.2
    exact ⟨hl, zoks_k (hf _ _ _ q2.1 q1.1 h1) q2.2, hi, zle_rf h⟩
  · cases e
theorem zg_bl {f : Int64 → Int64 → ZV} (hl : zoks ls) (hs : zoks st) (hi : zinv h) (hf : ∀ x y, zok (f x y)) (e : zbl pc ls st h f = some r) : zgood r h := by
  unfold zbl at e
  split at e
  · cases e
    exact ⟨hl, zoks_k (hf _ _) (zoks_c (zoks_c hs).2).2, hi, zle_rf h⟩
  · cases e
theorem zg_bd {f : UInt64 → UInt64 → Option ZV} (hl : zoks ls) (hs : zoks st) (hi : zinv h) (hf : ∀ x y v, f x y = some v → zok v) (e : zbd pc ls st h f = some r) : zgood r h := by
  unfold zbd at e
  split at e
  · obtain ⟨l, h1, rfl⟩ := Option.map_eq_some_iff.mp e
    exact ⟨hl, zoks_k (hf _ _ _ h1) (zoks_c (zoks_c hs).2).2, hi, zle_rf h⟩
  · cases e
theorem zg_get (hl : zoks ls) (hs : zoks st) (hi : zinv h) (e : zget ci k pc ls st h = some r) : zgood r h := by
  unfold zget at e
  split at e
  · split at e
    · split at e
      · split at e
        · cases e
        · cases e; exact ⟨hl, zoks_k trivial (zoks_c hs).2, hi, zle_rf h⟩
      · cases e; exact ⟨hl, zoks_k (hi.2.1 _ _) (zoks_c hs).2, hi, zle_rf h⟩
    · cases e
  · cases e
theorem zg_put (hci : ci < 99) (hl : zoks ls) (hs : zoks st) (hi : zinv h) (e : zput ci k pc ls st h = some r) : zgood r h := by
  unfold zput at e
  split at e
  · split at e
    · next hh => cases e; exact ⟨hl, (zoks_c (zoks_c hs).2).2, zinv_wr hi _ _ (zoks_c hs).1, zle_wr hi (zkn_lt (by rw [hh.1]; exact hci)) _ _⟩
    · cases e
  · split at e
    · next hh => cases e; exact ⟨hl, (zoks_c (zoks_c hs).2).2, zinv_sr hi _ _ (zkn_lt (by rw [hh.1]; exact hci)), zle_sr _ _ _⟩
    · cases e
  · cases e
theorem zg_ald (hl : zoks ls) (hs : zoks st) (hi : zinv h) (e : zald kd pc ls st h = some r) : zgood r h := by
  unfold zald at e
  split at e
  · split at e
    · cases e; exact ⟨hl, zoks_k (hi.2.1 _ _) (zoks_c (zoks_c hs).2).2, hi, zle_rf h⟩
    · cases e
  · cases e
theorem zg_sld (hl : zoks ls) (hs : zoks st) (hi : zinv h) (e : zsld pc ls st h = some r) : zgood r h := by
  unfold zsld at e
  split at e
  · split at e
    · split at e
      · cases e; exact ⟨hl, zoks_k (hi.2.1 _ _) (zoks_c (zoks_c hs).2).2, hi, zle_rf h⟩
      · cases e
    · cases e
  · cases e
theorem zg_ast {ok : Int → Bool} (hkd : kd < 99) (hl : zoks ls) (hs : zoks st) (hi : zinv h) (e : zast kd pc ls st h ok = some r) : zgood r h := by
  unfold zast at e
  split at e
  · split at e
    · next hh => cases e; exact ⟨hl, (zoks_c (zoks_c (zoks_c hs).2).2).2, zinv_wr hi _ _ (zoks_c hs).1, zle_wr hi (zkn_lt (by rw [hh.1]; exact hkd)) _ _⟩
    · cases e
  · cases e
theorem zg_aal (hl : zoks ls) (hs : zoks st) (hi : zinv h) (e : zaal pc ls st h = some r) : zgood r h := by
  unfold zaal at e
  split at e
  · split at e
    · split at e
      · cases e
      · cases e; exact ⟨hl, zoks_k trivial (zoks_c (zoks_c hs).2).2, hi, zle_rf h⟩
    · cases e
  · cases e
theorem zg_aas (hl : zoks ls) (hs : zoks st) (hi : zinv h) (e : zaas pc ls st h = some r) : zgood r h := by
  unfold zaas at e
  split at e
  · split at e
    · next hh => cases e; exact ⟨hl, (zoks_c (zoks_c (zoks_c hs).2).2).2, zinv_sr hi _ _ (zkn_lt (by rw [hh.1]; decide)), zle_sr _ _ _⟩
    · cases e
  · cases e
theorem zg_nat {kd : Nat} (hl : zoks ls) (hs : zoks st) (hi : zinv h) (e : znat kd pc ls st h = some r) : zgood r h := by
  unfold znat at e
  split at e
  · split at e
    · cases e; exact ⟨hl, zoks_k trivial (zoks_c hs).2, hi, zle_rf h⟩
    · cases e
  · split at e
    · cases e; exact ⟨hl, zoks_k (show zrg _ from zrg_if (zoks_c hs).1 (zrg_w _)) (zoks_c hs).2, hi, zle_rf h⟩
    · cases e
  · split at e
    · cases e; exact ⟨hl, zoks_k (show zrg _ from zrg_if (zoks_c hs).1 (zoks_c (zoks_c hs).2).1) (zoks_c (zoks_c hs).2).2, hi, zle_rf h⟩
    · cases e
  · split at e
    · cases e; exact ⟨hl, zoks_k (show zrg _ from zrg_if (zoks_c hs).1 (zoks_c (zoks_c hs).2).1) (zoks_c (zoks_c hs).2).2, hi, zle_rf h⟩
    · cases e
  · cases e
theorem zrg_ln (hi : zinv h) {a : Nat} (h1 : zkn h.1 a < 99) : zrg (zln h.1 a) := by
  have := (hi.1 _ (zget_mem (zkn_lt h1))).2.2.2
  have : zln h.1 a ≤ 1000 := this
  exact ⟨by omega, by omega⟩
theorem zg_alen (hl : zoks ls) (hs : zoks st) (hi : zinv h) (e : zalen pc ls st h = some r) : zgood r h := by
  unfold zalen at e
  split at e
  · split at e
    · split at e
      · next h1 => cases e; exact ⟨hl, zoks_k (show zrg _ from ⟨by omega, by have := (hi.2.1 zSC (-1)).2; omega⟩) (zoks_c hs).2, hi, zle_rf h⟩
      · cases e
    · split at e
      · next hh => cases e; exact ⟨hl, zoks_k (zrg_ln hi (by omega)) (zoks_c hs).2, hi, zle_rf h⟩
      · cases e
  · cases e
theorem zg_new (hci : ci < 11) (hl : zoks ls) (hs : zoks st) (hi : zinv h) (e : znew ci pc ls st h = some r) : zgood r h := by
  unfold znew at e
  split at e
  · cases e
  cases e
  refine ⟨hl, zoks_k trivial hs, zinv_app hi (fun c hc => ?_) (by show _ + 1 ≤ 3000; omega) _ _, zle_app hi _ (by have := hi.2.2; omega)⟩
  rcases List.mem_singleton.mp hc with rfl
  refine ⟨by simp, fun _ => ⟨hci, rfl⟩, by show ci < 25; omega, ?_⟩
  have h1 : ∀ l ∈ zFk, l.length ≤ 1000 := by decide +kernel
  show (zFk.getD ci []).length ≤ 1000
  rw [List.getD_eq_getElem?_getD]
  cases hg : zFk[ci]? with
  | none => decide
  | some l => exact h1 l (List.mem_of_getElem? hg)
theorem zg_nwa (hkd : 20 ≤ kd ∧ kd < 25) (hl : zoks ls) (hs : zoks st) (hi : zinv h) (e : znwa kd pc ls st h = some r) : zgood r h := by
  unfold znwa at e
  split at e
  · split at e
    · cases e
      refine ⟨hl, zoks_k trivial (zoks_c hs).2, zinv_app hi (fun c hc => ?_) (by show _ + 1 ≤ 3000; omega) _ _, zle_app hi _ (by have := hi.2.2; omega)⟩
      rcases List.mem_singleton.mp hc with rfl
      exact ⟨by simp, fun q => absurd q (by show ¬ kd < 20; omega), hkd.2, by show Int.toNat _ ≤ 1000; omega⟩
    · cases e
  · cases e
theorem zg_mna (hl : zoks ls) (hs : zoks st) (hi : zinv h) (e : zmna pc ls st h = some r) : zgood r h := by
  unfold zmna at e
  split at e
  · split at e
    · cases e
      refine ⟨hl, zoks_k trivial (zoks_c (zoks_c hs).2).2, zinv_app hi (fun c hc => ?_) (by simp; omega) _ _, zle_app hi _ (by have := hi.2.2; omega)⟩
      rcases List.mem_cons.mp hc with rfl | hc
      · exact ⟨by simp, fun q => absurd q (by show ¬ 24 < 20; decide), by show 24 < 25; decide, by show Int.toNat _ ≤ 1000; omega⟩
      · rcases List.mem_replicate.mp hc with ⟨-, rfl⟩
        exact ⟨by simp, fun q => absurd q (by show ¬ 20 < 20; decide), by show 20 < 25; decide, by show Int.toNat _ ≤ 1000; omega⟩
    · cases e
  · cases e
end
theorem zFl_ok {x : Nat} {q : Nat × Nat} (h : zFl.lookup x = some q) : q.1 < 11 ∧ q.2 < (zFk.getD q.1 []).length := by
  have h1 : ∀ q ∈ zFl, q.2.1 < 11 ∧ q.2.2 < (zFk.getD q.2.1 []).length := by decide +kernel
  exact h1 _ (zlook_mem h)
theorem zrg_cmp (x y : Int64) : zrg (lg_cmp x y).toInt := zrg_i _
theorem zrg_div {x y : Int} : zrg (zw (x.tdiv y)) := zrg_w _
theorem zrg_mod {x y : Int} (hx : zrg x) (hy : ¬ y = 0) (h : zrg y) : zrg (x.tmod y) := by
  unfold zrg at *
  have h1 := Int.tmod_lt_of_pos x (b := y)
  have h2 : (x.tmod y).natAbs ≤ x.natAbs := by rw [Int.natAbs_tmod]; exact Nat.mod_le _ _
  rcases Int.le_total 0 x with q | q
  · have := Int.tmod_nonneg y q
    omega
  · have h3 : 0 ≤ -(x.tmod y) := by rw [← Int.neg_tmod]; exact Int.tmod_nonneg y (by omega)
    omega

set_option maxHeartbeats 4000000 in
theorem zex_inv {o pc n : Nat} {i : Instr} {ls st : List ZV} {h : ZH} {r : Nat × List ZV × List ZV × ZH} (hst : zstat i n = true) (hl : zoks ls) (hs : zoks st) (hi : zinv h) (e : zex o i pc n ls st h = some r) : zgood r h := by
  have kk : ∀ {v : ZV}, zok v → zgood (pc + n, ls, v :: st, h) h := fun hv => ⟨hl, zoks_k hv hs, hi, zle_rf h⟩
  cases i
  case iconst c =>
    cases e
    simp only [zstat, Bool.and_eq_true, decide_eq_true_eq, beq_iff_eq] at hst
    exact kk (by show zrg c; unfold zrg; omega)
  case bipush c =>
    cases e
    simp only [zstat, Bool.and_eq_true, decide_eq_true_eq, beq_iff_eq] at hst
    exact kk (by show zrg c; unfold zrg; omega)
  case sipush c =>
    cases e
    simp only [zstat, Bool.and_eq_true, decide_eq_true_eq, beq_iff_eq] at hst
    exact kk (by show zrg c; unfold zrg; omega)
  case ldc x =>
    obtain ⟨v, h1, rfl⟩ := Option.map_eq_some_iff.mp e
    exact kk (zKi_rg h1)
  case ldc_w x =>
    obtain ⟨v, h1, rfl⟩ := Option.map_eq_some_iff.mp e
    exact kk (zKi_rg h1)
  case lconst c => cases e; exact kk trivial
  case ldc2_w x =>
    unfold zex at e
    dsimp only at e
    split at e
    · cases e; exact kk trivial
    · obtain ⟨v, h1, rfl⟩ := Option.map_eq_some_iff.mp e
      exact kk trivial
  case dconst d =>
    unfold zex at e
    dsimp only at e
    split at e
    · cases e; exact kk trivial
    · cases e
  case iload j => exact zg_push hl hs hi (fun x hx => zg_gi hl hx) e
  case iload_n j => exact zg_push hl hs hi (fun x hx => zg_gi hl hx) e
  case aload j => exact zg_push hl hs hi (fun x hx => zg_ga hx) e
  case aload_n j => exact zg_push hl hs hi (fun x hx => zg_ga hx) e
  case lload j => exact zg_push hl hs hi (fun x hx => zg_gl hx) e
  case dload_n j => exact zg_push hl hs hi (fun x hx => zg_gd hx) e
  case istore j => exact zg_si hl hs hi e
  case istore_n j => exact zg_si hl hs hi e
  case astore_n j => exact zg_sa hl hs hi e
  case lstore j => exact zg_sl hl hs hi e
  case dstore_n j => exact zg_sd hl hs hi e
  case iinc j c =>
    unfold zex at e
    dsimp only at e
    split at e
    · obtain ⟨l, h1, rfl⟩ := Option.map_eq_some_iff.mp e
      exact ⟨zoks_s1 hl (show zok (zI (zw _)) from zrg_w _) h1, hs, hi, zle_rf h⟩
    · cases e
  case getfield x =>
    obtain ⟨q, h1, h2⟩ := Option.bind_eq_some_iff.mp e
    exact zg_get hl hs hi h2
  case putfield x =>
    obtain ⟨q, h1, h2⟩ := Option.bind_eq_some_iff.mp e
    exact zg_put (by have := (zFl_ok h1).1; omega) hl hs hi h2
  case iaload =>
    unfold zex at e
    dsimp only at e
    split at e
    · next hh => cases e; exact zg_ald hl hs hi hh
    · exact zg_sld hl hs hi e
  case caload => exact zg_ald hl hs hi e
  case baload => exact zg_ald hl hs hi e
  case aaload => exact zg_aal hl hs hi e
  case iastore => exact zg_ast (by decide) hl hs hi e
  case castore => exact zg_ast (by decide) hl hs hi e
  case bastore => exact zg_ast (by decide) hl hs hi e
  case aastore => exact zg_aas hl hs hi e
  case arraylength => exact zg_alen hl hs hi e
  case dup =>
    unfold zex at e
    dsimp only at e
    split at e
    · split at e
      · cases e; exact ⟨hl, zoks_k (zoks_c hs).1 hs, hi, zle_rf h⟩
      · cases e
    · cases e
  case dup2 =>
    unfold zex at e
    dsimp only at e
    split at e
    · split at e
      · cases e; exact ⟨hl, zoks_k (zoks_c hs).1 (zoks_k (zoks_c (zoks_c hs).2).1 hs), hi, zle_rf h⟩
      · cases e
    · cases e
  case pop =>
    unfold zex at e
    dsimp only at e
    split at e
    · split at e
      · cases e; exact ⟨hl, (zoks_c hs).2, hi, zle_rf h⟩
      · cases e
    · cases e
  case iadd => exact zg_bi hl hs hi (fun x y v _ _ q => by cases q; exact zrg_w _) e
  case isub => exact zg_bi hl hs hi (fun x y v _ _ q => by cases q; exact zrg_w _) e
  case imul => exact zg_bi hl hs hi (fun x y v _ _ q => by cases q; exact zrg_w _) e
  case idiv =>
    refine zg_bi hl hs hi (fun x y v _ _ q => ?_) e
    split at q
    · cases q
    · cases q; exact zrg_w _
  case irem =>
    refine zg_bi hl hs hi (fun x y v hx hy q => ?_) e
    split at q
    · cases q
    · next hh => cases q; exact zrg_mod hx hh hy
  case iand => exact zg_bi hl hs hi (fun x y v _ _ q => by cases q; exact zrg_i _) e
  case ior => exact zg_bi hl hs hi (fun x y v _ _ q => by cases q; exact zrg_i _) e
  case ixor => exact zg_bi hl hs hi (fun x y v _ _ q => by cases q; exact zrg_i _) e
  case ishl => exact zg_bi hl hs hi (fun x y v _ _ q => by cases q; exact zrg_i _) e
  case ishr => exact zg_bi hl hs hi (fun x y v _ _ q => by cases q; exact zrg_i _) e
  case iushr => exact zg_bi hl hs hi (fun x y v _ _ q => by cases q; exact zrg_i _) e
  case ineg =>
    unfold zex at e
    dsimp only at e
    split at e
    · cases e; exact ⟨hl, zoks_k (zrg_w _) (zoks_c hs).2, hi, zle_rf h⟩
    · cases e
  case i2c =>
    unfold zex at e
    dsimp only at e
    split at e
    · split at e
      · cases e; exact ⟨hl, zoks_k (zoks_c hs).1 (zoks_c hs).2, hi, zle_rf h⟩
      · cases e
    · cases e
  case i2d =>
    unfold zex at e
    dsimp only at e
    split at e
    · cases e; exact ⟨hl, zoks_k trivial (zoks_c hs).2, hi, zle_rf h⟩
    · cases e
  case d2l =>
    unfold zex at e
    dsimp only at e
    split at e
    · cases e; exact ⟨hl, zoks_k trivial (zoks_c hs).2, hi, zle_rf h⟩
    · cases e
  case ladd => exact zg_bl (f := fun x y => zL (x + y)) hl hs hi (fun x y => trivial) e
  case lor => exact zg_bl (f := fun x y => zL (x ||| y)) hl hs hi (fun x y => trivial) e
  case lcmp => exact zg_bl (f := fun x y => zI (lg_cmp x y).toInt) hl hs hi (fun x y => zrg_i _) e
  case lshl =>
    unfold zex at e
    dsimp only at e
    split at e
    · cases e; exact ⟨hl, zoks_k trivial (zoks_c (zoks_c hs).2).2, hi, zle_rf h⟩
    · cases e
  case dsub =>
    refine zg_bd hl hs hi (fun x y v q => ?_) e
    unfold znan at q
    split at q
    · cases q; trivial
    · cases q
  case dmul =>
    refine zg_bd hl hs hi (fun x y v q => ?_) e
    unfold znan at q
    split at q
    · cases q; trivial
    · cases q
  case ddiv =>
    refine zg_bd hl hs hi (fun x y v q => ?_) e
    unfold znan at q
    split at q
    · cases q; trivial
    · cases q
  case dcmp c => exact zg_bd hl hs hi (fun x y v q => by cases q; exact zrg_i _) e
  case ifCond c off =>
    unfold zex at e
    dsimp only at e
    split at e
    · cases e; exact ⟨hl, (zoks_c hs).2, hi, zle_rf h⟩
    · cases e
  case if_icmp c off =>
    unfold zex at e
    dsimp only at e
    split at e
    · cases e; exact ⟨hl, (zoks_c (zoks_c hs).2).2, hi, zle_rf h⟩
    · cases e
  case goto off => cases e; exact ⟨hl, hs, hi, zle_rf h⟩
  case tableswitch d lo hi' offs =>
    unfold zex at e
    dsimp only at e
    split at e
    · split at e
      · cases e; exact ⟨hl, (zoks_c hs).2, hi, zle_rf h⟩
      · obtain ⟨l, h1, rfl⟩ := Option.map_eq_some_iff.mp e
        exact ⟨hl, (zoks_c hs).2, hi, zle_rf h⟩
    · cases e
  case lookupswitch d ps =>
    unfold zex at e
    dsimp only at e
    split at e
    · cases e; exact ⟨hl, (zoks_c hs).2, hi, zle_rf h⟩
    · cases e
  case new x =>
    obtain ⟨q, h1, h2⟩ := Option.bind_eq_some_iff.mp e
    exact zg_new (zNl_ok h1) hl hs hi h2
  case newarray t =>
    refine zg_nwa ?_ hl hs hi e
    simp only [zstat, Bool.and_eq_true, decide_eq_true_eq, beq_iff_eq] at hst
    revert hst
    cases t <;> simp [zat]
  case anewarray x =>
    unfold zex at e
    dsimp only at e
    split at e
    · exact zg_nwa (by decide) hl hs hi e
    · cases e
  case multianewarray x d =>
    unfold zex at e
    dsimp only at e
    split at e
    · exact zg_mna hl hs hi e
    · cases e
  case invokespecial x =>
    unfold zex at e
    dsimp only at e
    split at e
    · split at e
      · cases e; exact ⟨hl, (zoks_c hs).2, hi, zle_rf h⟩
      · cases e
    · cases e
  case invokestatic x =>
    obtain ⟨q, h1, h2⟩ := Option.bind_eq_some_iff.mp e
    split at h2
    · exact zg_nat hl hs hi h2
    · cases h2
  all_goals cases e
/-- a callee keeps what must be kept -/
def zkeep (cal : Nat → List ZV → ZH → ZO) : Prop := ∀ k as h v h1, zoks as → zinv h → cal k as h = some (v, h1) → (∀ x, v = some x → zok x) ∧ zinv h1 ∧ zle h h1
theorem zret_ok {k : Nat} {i : Instr} {st : List ZV} {v : Option ZV} (hs : zoks st) (e : zret k i st = some v) : ∀ x, v = some x → zok x := by
  intro x hx
  subst hx
  cases i
  case ireturn =>
    unfold zret at e
    dsimp only at e
    split at e
    · split at e
      · cases e; exact (zoks_c hs).1
      · cases e
    · cases e
  case lreturn =>
    unfold zret at e
    dsimp only at e
    split at e
    · split at e
      · cases e; trivial
      · cases e
    · cases e
  case return_ =>
    unfold zret at e
    dsimp only at e
    split at e
    · split at e
      · cases e
      · cases e
    · cases e
  all_goals cases e
theorem zoks_take {l : List ZV} (h : zoks l) (n : Nat) : zoks (l.take n).reverse := fun v hv => h v (List.mem_of_mem_take (List.mem_reverse.mp hv))
theorem zoks_drop {l : List ZV} (h : zoks l) (n : Nat) : zoks (l.drop n) := fun v hv => h v (List.mem_of_mem_drop hv)
theorem zoks_v {v : Option ZV} {l : List ZV} (hv : ∀ x, v = some x → zok x) (h : zoks l) : zoks (v.toList ++ l) := fun w hw => by
  rcases List.mem_append.mp hw with hw | hw
  · cases v with
    | none => cases hw
    | some x => rcases List.mem_singleton.mp hw with rfl; exact hv _ rfl
  · exact h w hw
theorem zrn_keep {cal : Nat → List ZV → ZH → ZO} (hc : zkeep cal) {k : Nat} : ∀ (n pc : Nat) (ls st : List ZV) (h : ZH) (v : Option ZV) (h1 : ZH), zoks ls → zoks st → zinv h → zrn cal k n pc ls st h = some (v, h1) → (∀ x, v = some x → zok x) ∧ zinv h1 ∧ zle h h1
  | 0, _, _, _, _, _, _, _, _, _, e => by cases e
  | n + 1, pc, ls, st, h, v, h1, hl, hs, hi, e => by
    have e : zgo cal k (zrn cal k n) pc ls st h = some (v, h1) := e
    unfold zgo at e
    split at e
    · cases e
    · next hf =>
      split at e
      · next hr => cases e; exact ⟨zret_ok hs hr, hi, zle_rf h⟩
      · split at e
        · split at e
          · obtain ⟨⟨v', h'⟩, q1, q2⟩ := Option.bind_eq_some_iff.mp e
            obtain ⟨a1, a2, a3⟩ := hc _ _ _ _ _ (zoks_take hs _) hi q1
            obtain ⟨b1, b2, b3⟩ := zrn_keep hc n _ _ _ _ _ _ hl (zoks_v a1 (zoks_drop hs _)) a2 q2
            exact ⟨b1, b2, zle_tr a3 b3⟩
          · cases e
        · obtain ⟨r, q1, q2⟩ := Option.bind_eq_some_iff.mp e
          obtain ⟨a1, a2, a3, a4⟩ := zex_inv (zft_stat hf) hl hs hi q1
          obtain ⟨b1, b2, b3⟩ := zrn_keep hc n _ _ _ _ _ _ a1 a2 a3 q2
          exact ⟨b1, b2, zle_tr a4 b3⟩
theorem zoks_ent {mx : Nat} {as : List ZV} (h : zoks as) : zoks (zent mx as) := fun v hv => by
  unfold zent at hv
  rcases List.mem_append.mp hv with hv | hv
  · obtain ⟨w, h1, h2⟩ := List.mem_flatMap.mp hv
    split at h2
    · rcases List.mem_cons.mp h2 with rfl | h2
      · exact h _ h1
      · rcases List.mem_singleton.mp h2 with rfl; trivial
    · rcases List.mem_singleton.mp h2 with rfl; exact h _ h1
  · rcases List.mem_replicate.mp hv with ⟨-, rfl⟩; trivial
theorem zevl_keep : ∀ d, zkeep (zevl d)
  | 0 => fun _ _ _ _ _ _ _ e => by cases e
  | d + 1 => fun k as h v h1 ha hi e => by
    unfold zevl at e
    split at e
    · obtain ⟨n, hn⟩ := zrun_some e
      exact zrn_keep (zevl_keep d) n _ _ _ _ _ _ (zoks_ent ha) (fun v hv => by cases hv) hi hn
    · cases e
end
section
/-! the numbers' heap as cells of the machine; the tables' words by the code's own tables -/
def zad (b sc a : Nat) : Nat := if a = zSC then sc else b + a
def zcv (b sc : Nat) (v : ZV) : Value := match v with
  | .inl n => .int (Int32.ofInt n)
  | .inr (.inl a) => .ref (zad b sc a)
  | .inr (.inr (.inl x)) => .long x
  | .inr (.inr (.inr (.inl x))) => .double x
  | _ => .null
def zro (b sc q : Nat) : Option Nat := match q with
  | 0 => none
  | a + 1 => some (zad b sc a)
def zfv (b sc ci : Nat) (rs : List Nat) (f : Int → Int) (k : Nat) : Value := if zfk ci k = 2 then va_rf (zro b sc (rs.getD k 0)) else .int (Int32.ofInt (f k))
def zce (b sc : Nat) (cA : Nat → ClassId) (c : Nat × Nat × List Nat) (f : Int → Int) : va_E :=
  if c.1 < 20 then .inr (c.1, (List.range (zFk.getD c.1 []).length).map (zfv b sc c.1 c.2.2 f))
  else if c.1 < 23 then .inl (cA c.1, (c.2.1, .inl (fun j => Int32.ofInt (f j))))
  else .inl (cA c.1, (c.2.1, .inr (.inr (.inr (.inr (fun j => zro b sc (c.2.2.getD j 0)))))))
def zws (b sc : Nat) (cA : Nat → ClassId) (h : ZH) : va_W := (List.range h.1.length).map (fun i => (b + i, zce b sc cA (h.1.getD i (99, 0, [])) (h.2 i)))
theorem zws_at {b sc : Nat} {cA : Nat → ClassId} {h : ZH} {a : Nat} (ha : a < h.1.length) : (zws b sc cA h)[a]? = some (b + a, zce b sc cA (h.1.getD a (99, 0, [])) (h.2 a)) := by
  unfold zws
  rw [List.getElem?_map, List.getElem?_range ha]
  rfl
def zDg : String := "DungeonBuilder$Dungeon"
def zTy (cA : Nat → ClassId) : List (ClassId × FieldType) := [(cA 20, .int), (cA 21, .char), (cA 22, .boolean), (cA 23, .object zDg), (cA 24, .array .int)]
def zWs : List Jvm.Cond := lw_tbl.filter goodWord
def zNw : List Jvm.Cond := lw_tbl.filter (fun w => match w with
  | .methodLinkNest _ _ _ _ => true
  | _ => false)
def zAOA (U : State) : Prop := (Cond.arrayOver (.array .int)).before #[] U = true
def zK (D : va_G) (cA : Nat → ClassId) (U : State) : Prop := va_K D zCl (zTy cA) U ∧ (∀ w, w ∈ zNw → va_Nw w U) ∧ va_AO zDg U ∧ zAOA U
def zCnm (o : Nat) : String := zCN.getD o ""
def zwk (k : Nat) : List Jvm.Cond := Cond.code (zm k).2.1 (zm k).2.2.1 (zmax k) (zrty k) :: zWs
theorem zWs_of {w : Jvm.Cond} (h : (decide (w ∈ lw_tbl) && goodWord w) = true) : w ∈ zWs := by
  simp only [Bool.and_eq_true, decide_eq_true_eq] at h
  exact List.mem_filter.mpr h
theorem zWs_good : GoodIn zWs zWs := fun w h => ⟨h, good_of_word (List.mem_filter.mp h).2⟩
-- fields
def zT (ci : Nat) : u_T := (zCl.getD ci ("", TX0, 0)).2.1
def zC (ci : Nat) : String := (zCl.getD ci ("", TX0, 0)).1
def zN (ci : Nat) : Nat := (zCl.getD ci ("", TX0, 0)).2.2
def ztyp (ci k : Nat) : FieldType := match ci with
  | 0 => tyX0 k
  | 1 => tyX1 k
  | 2 => tyX2 k
  | 3 => tyX3 k
  | 4 => tyX4 k
  | 5 => tyX5 k
  | 6 => tyX1 k
  | 7 => tyX7 k
  | 8 => tyX8 k
  | 9 => tyX9 k
  | _ => tyX10 k
theorem zCl_at {ci : Nat} (h : ci < 11) : zCl[ci]? = some (zC ci, zT ci, zN ci) := by
  unfold zC zT zN
  rw [List.getD_eq_getElem?_getD, List.getElem?_eq_getElem (show ci < zCl.length from h), Option.getD_some]
theorem zN_len {ci : Nat} (h : ci < 11) : (zFk.getD ci []).length = zN ci := by
  have : ∀ ci, ci < 11 → (zFk.getD ci []).length = zN ci := by decide +kernel
  exact this ci h
theorem ztyp_ok {ci : Nat} (h : ci < 11) : ∀ k, k < zN ci → parseFieldDescriptor (zT ci k).2.2.1 = some (ztyp ci k) := by
  have : ∀ ci, ci < 11 → ∀ k, k < zN ci → parseFieldDescriptor (zT ci k).2.2.1 = some (ztyp ci k) := by decide +kernel
  exact this ci h
theorem ztyp_k {ci : Nat} (h : ci < 11) : ∀ k, k < zN ci → zfk ci k < 3 ∧ (zfk ci k = 0 → ztyp ci k = .int) ∧ (zfk ci k = 1 → ztyp ci k = .boolean) ∧ (zfk ci k = 2 → (ztyp ci k).isReference = true) := by
  have : ∀ ci, ci < 11 → ∀ k, k < zN ci → zfk ci k < 3 ∧ (zfk ci k = 0 → ztyp ci k = .int) ∧ (zfk ci k = 1 → ztyp ci k = .boolean) ∧ (zfk ci k = 2 → (ztyp ci k).isReference = true) := by decide +kernel
  exact this ci h
theorem znm_ok {ci : Nat} (h : ci < 11) : ∀ a, a < zN ci → ∀ b, b < zN ci → a ≠ b → (zT ci a).2.1 ≠ (zT ci b).2.1 := by
  have : ∀ ci, ci < 11 → ∀ a, a < zN ci → ∀ b, b < zN ci → a ≠ b → (zT ci a).2.1 ≠ (zT ci b).2.1 := by decide +kernel
  exact this ci h
theorem zu_ok : ∀ ci, ci < 11 → (u_ws (zC ci) (zT ci) (zN ci)).all (fun w => decide (w ∈ lw_tbl) && goodWord w) = true := by decide +kernel
theorem zu_in {ci : Nat} (h : ci < 11) : ∀ w ∈ u_ws (zC ci) (zT ci) (zN ci), w ∈ zWs := fun w hw => zWs_of (List.all_eq_true.mp (zu_ok ci h) w hw)
def zFw (q : Nat × Nat × Nat) : Jvm.Cond := .fieldLink (zCnm (q.1 / 4096)) (q.1 % 4096) (zT q.2.1 q.2.2).1 (zT q.2.1 q.2.2).2.1 (zT q.2.1 q.2.2).2.2.1
theorem zFl_w : zFl.all (fun q => decide (zFw q ∈ lw_tbl) && goodWord (zFw q) && decide (q.2.2 < zN q.2.1)) = true := by decide +kernel
theorem zky_div {o x : Nat} (h : x < 4096) : zky o x / 4096 = o := by unfold zky; omega
theorem zky_mod {o x : Nat} (h : x < 4096) : zky o x % 4096 = x := by unfold zky; omega
end
section
/-! the words that calls, constants and new cells want, by the tables -/
def zin (w : Jvm.Cond) : Bool := decide (w ∈ lw_tbl) && goodWord w
def zHost : String := "DungeonBuilder"
def zRaw : MethodName := ⟨"java/lang/Double", "doubleToRawLongBits", "(D)J"⟩
def zMp : List (List Nat) := [[241], [537, 73, 534, 535, 536], [541, 76, 538, 540, 6], [544, 76, 542, 543, 0], [565, 76, 562, 564, 11], [571, 76, 568, 570, 12], [548, 76, 545, 547, 7], [557, 76, 554, 556, 9], [561, 76, 558, 560, 10], [552, 76, 549, 551, 8], [566], [422, 73, 567, 420, 421], [575, 73, 572, 573, 574], [448, 73, 587, 446, 447], [101], [414, 73, 411, 413, 0], [418, 73, 415, 417, 1], [425, 73, 423, 424, 0], [429, 73, 426, 428, 2], [452, 73, 449, 450, 451], [456, 73, 453, 454, 455], [461], [462], [575, 73, 596, 573, 574], [448, 73, 597, 446, 447], [476, 73, 473, 474, 475], [479, 72, 477, 478, 0], [482, 72, 480, 481, 0], [514, 73, 511, 513, 5], [517, 73, 515, 516, 0], [460, 73, 457, 458, 459], [579, 73, 576, 577, 578], [580], [586, 73, 583, 584, 585], [623, 72, 632, 622, 0], [758, 73, 755, 756, 757], [798, 73, 795, 796, 797], [294], [653, 83, 878, 652, 0], [881, 78, 879, 880, 0], [887, 78, 884, 886, 23], [758, 73, 882, 756, 757], [798, 73, 883, 796, 797], [890, 78, 888, 889, 0], [623, 72, 893, 622, 0], [620, 83, 891, 619, 0], [631, 73, 892, 629, 630], [348], [656, 86, 763, 655, 0], [767, 80, 764, 766, 20], [774, 80, 771, 773, 21], [770, 72, 768, 769, 0], [575, 73, 775, 573, 574], [778, 80, 776, 777, 0], [579, 73, 779, 577, 578], [586, 73, 780, 584, 585], [781], [782], [783], [786, 85, 784, 785, 0], [852, 80, 850, 851, 0], [868, 80, 865, 867, 22], [860, 80, 869, 858, 859], [186], [100, 73, 189, 99, 0], [410, 73, 407, 408, 409], [438], [284], [608, 77, 606, 607, 0], [642, 77, 640, 641, 0], [648, 77, 645, 647, 13], [611, 83, 609, 610, 0], [635, 85, 633, 634, 0], [639], [627, 73, 643, 625, 626], [623, 72, 644, 622, 0], [614, 83, 649, 613, 0], [617, 83, 650, 616, 0], [653, 83, 651, 652, 0], [620, 83, 618, 619, 0], [631, 73, 628, 629, 630], [614, 83, 612, 613, 0], [617, 83, 615, 616, 0], [623, 72, 621, 622, 0], [627, 73, 624, 625, 626], [801, 83, 805, 800, 0], [656, 86, 654, 655, 0], [452, 73, 657, 450, 451], [660, 83, 658, 659, 0], [205], [676, 75, 673, 675, 14], [688, 75, 685, 687, 15], [692, 75, 689, 691, 16], [700, 75, 697, 699, 18], [696, 75, 693, 695, 17], [703, 75, 701, 702, 0], [706, 75, 704, 705, 0], [710, 75, 707, 709, 19], [717, 75, 715, 716, 0], [422, 73, 718, 420, 421], [448, 73, 719, 446, 447], [472, 73, 720, 470, 471], [494, 73, 721, 492, 493], [502, 73, 722, 500, 501], [320], [656, 86, 947, 655, 0], [951, 79, 948, 950, 24], [956, 79, 953, 955, 25], [456, 73, 957, 454, 455], [631, 73, 958, 629, 630], [627, 73, 952, 625, 626], [962, 79, 971, 960, 961], [93], [100, 73, 98, 99, 0], [185, 74, 183, 184, 0], [204, 75, 202, 203, 0], [240, 76, 238, 239, 0], [283, 77, 281, 282, 0], [293, 78, 291, 292, 0], [319, 79, 317, 318, 0], [347, 80, 345, 346, 0], [406, 74, 403, 404, 405], [422, 73, 419, 420, 421], [433, 72, 430, 432, 3], [448, 73, 445, 446, 447], [472, 73, 469, 470, 471], [486, 72, 483, 485, 4], [494, 73, 491, 492, 493], [502, 73, 499, 500, 501], [510, 73, 507, 508, 509], [525, 73, 522, 523, 524], [533, 76, 530, 531, 532], [595, 73, 592, 593, 594], [605, 77, 602, 603, 604], [672, 75, 669, 670, 671], [684, 75, 681, 682, 683], [714, 75, 711, 712, 713], [726, 74, 723, 724, 725], [738, 74, 735, 736, 737], [746, 73, 743, 744, 745], [750, 73, 747, 748, 749], [754, 73, 751, 752, 753], [762, 80, 759, 760, 761], [790, 80, 787, 788, 789], [794, 73, 791, 792, 793], [801, 83, 799, 800, 0], [804, 83, 802, 803, 0], [452, 73, 810, 450, 451], [482, 72, 811, 481, 0], [798, 73, 812, 796, 797], [579, 73, 813, 577, 578], [586, 73, 814, 584, 585], [476, 73, 819, 474, 475], [823, 80, 820, 821, 822], [456, 73, 828, 454, 455], [770, 72, 837, 769, 0], [841, 80, 838, 839, 840], [849, 80, 846, 847, 848], [860, 80, 857, 858, 859], [864, 80, 861, 862, 863], [877, 78, 874, 875, 876], [909, 78, 906, 907, 908], [917, 78, 914, 915, 916], [928, 83, 926, 927, 0], [620, 83, 929, 619, 0], [623, 72, 934, 622, 0], [946, 79, 943, 944, 945], [962, 79, 959, 960, 961], [970, 79, 967, 968, 969], [976], [984, 78, 981, 982, 983], [996, 78, 993, 994, 995], [1004, 72, 1002, 1003, 0], [410, 73, 1012, 408, 409], [1020, 74, 1017, 1018, 1019], [437, 74, 434, 435, 436], [1026], [1119, 81, 1117, 1118, 0], [1127, 81, 1124, 1126, 29], [1225, 81, 1222, 1224, 44], [1228, 81, 1226, 1227, 0], [1232, 81, 1229, 1231, 45], [1135, 81, 1132, 1134, 31], [1123, 81, 1120, 1122, 28], [1155, 81, 1152, 1154, 35], [1147, 81, 1144, 1146, 33], [1151, 81, 1148, 1150, 34], [1167, 81, 1164, 1166, 37], [1170, 81, 1168, 1169, 0], [1112, 81, 1109, 1111, 26], [1116, 81, 1113, 1115, 27], [1131, 81, 1128, 1130, 30], [1143, 81, 1140, 1142, 32], [1163, 81, 1160, 1162, 36], [1178, 81, 1175, 1177, 38], [1186, 81, 1183, 1185, 39], [1194, 81, 1191, 1193, 40], [1209, 81, 1206, 1208, 41], [1205, 81, 1203, 1204, 0], [1221, 81, 1218, 1220, 43], [1213, 81, 1211, 1212, 0], [1217, 81, 1214, 1216, 42], [1248, 81, 1245, 1247, 47], [1272, 81, 1269, 1271, 53], [1276, 81, 1273, 1275, 54], [1260, 81, 1257, 1259, 50], [1264, 81, 1261, 1263, 51], [1268, 81, 1265, 1267, 52], [1256, 81, 1253, 1255, 49], [1244, 81, 1241, 1243, 46], [1252, 81, 1249, 1251, 48], [1295, 81, 1293, 1294, 0], [1299, 81, 1296, 1298, 56], [1303, 81, 1300, 1302, 57], [1292, 81, 1289, 1291, 55], [1307, 81, 1304, 1306, 58], [1333, 81, 1331, 1332, 0], [1330, 81, 1327, 1329, 60], [1322, 81, 1320, 1321, 0], [1326, 81, 1323, 1325, 59], [1345, 81, 1342, 1344, 61], [1349, 81, 1346, 1348, 62], [1357, 81, 1354, 1356, 63], [1369, 81, 1366, 1368, 64], [1393, 81, 1390, 1392, 65], [1433, 81, 1430, 1432, 68], [1429, 81, 1426, 1428, 67], [1425, 81, 1422, 1424, 66], [1437, 81, 1434, 1436, 69], [1445, 81, 1442, 1444, 70], [1469, 87, 1467, 1468, 0], [1472, 87, 1470, 1471, 0], [1473], [92, 72, 90, 91, 0], [1025, 81, 1023, 1024, 0], [402, 72, 399, 400, 401], [1108, 81, 1105, 1106, 1107], [444, 72, 441, 442, 443], [1139, 81, 1136, 1137, 1138], [468, 72, 465, 466, 467], [1159, 81, 1156, 1157, 1158], [490, 72, 487, 488, 489], [1174, 81, 1171, 1172, 1173], [498, 72, 495, 496, 497], [1182, 81, 1179, 1180, 1181], [506, 72, 503, 504, 505], [1190, 81, 1187, 1188, 1189], [521, 72, 518, 519, 520], [1198, 81, 1195, 1196, 1197], [529, 72, 526, 527, 528], [1202, 81, 1199, 1200, 1201], [591, 72, 588, 589, 590], [1236, 81, 1233, 1234, 1235], [601, 72, 598, 599, 600], [1240, 81, 1237, 1238, 1239], [664, 72, 661, 662, 663], [1280, 81, 1277, 1278, 1279], [668, 72, 665, 666, 667], [1284, 81, 1281, 1282, 1283], [680, 72, 677, 678, 679], [1288, 81, 1285, 1286, 1287], [730, 72, 727, 728, 729], [1311, 81, 1308, 1309, 1310], [734, 72, 731, 732, 733], [1315, 81, 1312, 1313, 1314], [742, 72, 739, 740, 741], [1353, 81, 1350, 1351, 1352], [809, 72, 806, 807, 808], [1361, 81, 1358, 1359, 1360], [818, 72, 815, 816, 817], [1365, 81, 1362, 1363, 1364], [827, 72, 824, 825, 826], [1373, 81, 1370, 1371, 1372], [832, 72, 829, 830, 831], [1377, 81, 1374, 1375, 1376], [836, 72, 833, 834, 835], [1319, 81, 1316, 1317, 1318], [845, 72, 842, 843, 844], [1337, 81, 1334, 1335, 1336], [856, 72, 853, 854, 855], [1341, 81, 1338, 1339, 1340], [873, 72, 870, 871, 872], [1381, 81, 1378, 1379, 1380], [897, 72, 894, 895, 896], [1385, 81, 1382, 1383, 1384], [901, 72, 898, 899, 900], [1389, 81, 1386, 1387, 1388], [905, 72, 902, 903, 904], [1397, 81, 1394, 1395, 1396], [913, 72, 910, 911, 912], [1401, 81, 1398, 1399, 1400], [921, 72, 918, 919, 920], [1405, 81, 1402, 1403, 1404], [925, 72, 922, 923, 924], [1409, 81, 1406, 1407, 1408], [933, 72, 930, 931, 932], [1413, 81, 1410, 1411, 1412], [938, 72, 935, 936, 937], [1417, 81, 1414, 1415, 1416], [942, 72, 939, 940, 941], [1421, 81, 1418, 1419, 1420], [966, 72, 963, 964, 965], [1441, 81, 1438, 1439, 1440], [975, 72, 972, 973, 974], [1449, 81, 1446, 1447, 1448], [980, 72, 977, 978, 979], [1453, 81, 1450, 1451, 1452], [988, 72, 985, 986, 987], [1457, 81, 1454, 1455, 1456], [992, 72, 989, 990, 991], [1461, 81, 1458, 1459, 1460], [1000, 72, 997, 998, 999], [1465, 81, 1462, 1463, 1464], [1011, 72, 1008, 1009, 1010], [1480, 81, 1477, 1478, 1479], [1016, 72, 1013, 1014, 1015], [1484, 81, 1481, 1482, 1483]]

def zpos (i : Nat) (w : Jvm.Cond) : Bool := decide (lw_tbl[i]? = some w) && goodWord w
theorem zpos_in {i : Nat} {w : Jvm.Cond} (h : zpos i w = true) : w ∈ zWs := by
  unfold zpos at h
  simp only [Bool.and_eq_true, decide_eq_true_eq] at h
  exact List.mem_filter.mpr ⟨List.mem_of_getElem? h.1, h.2⟩
def zCws : List Jvm.Cond := (zMs.take 255).map (fun q => .code q.2.1 q.2.2.1 q.2.2.2.1 q.2.2.2.2.1)
set_option maxRecDepth 100000 in
set_option maxHeartbeats 4000000 in
theorem zCws_in : GoodIn lw_tbl zCws := goodIn_p _ [240, 533, 552, 541, 544, 557, 561, 548, 565, 571, 100, 410, 414, 418, 537, 452, 476, 422, 425, 429, 448, 595, 472, 494, 502, 510, 514, 517, 525, 460, 456, 798, 579, 586, 575, 631, 627, 746, 750, 758, 754, 794, 293, 877, 881, 887, 890, 909, 917, 984, 996, 347, 762, 767, 774, 778, 823, 790, 860, 841, 849, 852, 864, 868, 185, 406, 437, 726, 738, 1020, 283, 605, 608, 642, 648, 617, 928, 614, 620, 611, 801, 804, 653, 660, 204, 672, 676, 684, 688, 700, 703, 710, 692, 696, 706, 714, 717, 319, 946, 956, 951, 962, 970, 92, 402, 444, 468, 490, 498, 506, 521, 529, 591, 601, 664, 668, 680, 730, 734, 742, 809, 818, 827, 832, 836, 845, 856, 873, 897, 901, 905, 913, 921, 925, 933, 938, 942, 966, 975, 980, 988, 992, 1000, 1011, 1016, 433, 486, 482, 479, 623, 770, 1004, 1025, 1119, 1147, 1167, 1127, 1155, 1225, 1232, 1228, 1221, 1112, 1135, 1131, 1123, 1116, 1151, 1143, 1170, 1163, 1178, 1186, 1194, 1108, 1139, 1159, 1174, 1182, 1190, 1198, 1209, 1205, 1213, 1217, 1202, 1236, 1248, 1272, 1276, 1268, 1264, 1260, 1256, 1393, 1244, 1252, 1240, 1280, 1284, 1299, 1295, 1303, 1292, 1307, 1288, 1311, 1315, 1322, 1333, 1330, 1326, 1369, 1319, 1337, 1345, 1349, 1341, 1357, 1353, 1361, 1365, 1373, 1377, 1381, 1385, 1389, 1397, 1401, 1405, 1409, 1413, 1417, 1433, 1429, 1445, 1437, 1425, 1421, 1441, 1449, 1453, 1457, 1461, 1465, 1480, 1484, 1472, 1469, 635, 786, 582, 464, 440, 656] rfl (by decide +kernel)
theorem zcode_in {k : Nat} (h : k < 255) : Cond.code (zm k).2.1 (zm k).2.2.1 (zmax k) (zrty k) ∈ zWs := by
  have h1 : Cond.code (zm k).2.1 (zm k).2.2.1 (zmax k) (zrty k) ∈ zCws := by
    have hk : k < zMs.length := Nat.lt_of_lt_of_le h (by decide +kernel)
    have h2 : zm k = zMs[k] := by unfold zm; rw [List.getD_eq_getElem?_getD, List.getElem?_eq_getElem hk, Option.getD_some]
    unfold zmax zrty
    rw [h2]
    refine List.mem_map.mpr ⟨zMs[k], List.mem_take_iff_getElem.mpr ⟨k, by omega, rfl⟩, rfl⟩
  have h2 := zCws_in _ h1
  exact List.mem_filter.mpr ⟨h2.1, by rcases h2.2 with q | ⟨ty, q⟩
                                      · exact q
                                      · cases q⟩
/-- a method's own words: its code, its class, its arguments -/
def zMok (ps : List Nat) (k : Nat) : Bool := decide (k < 255) && zpos (ps.getD 1 0) (.initialized (zm k).2.1.cls) && decide ((zm k).2.1.cls ≠ "java/lang/invoke/MethodHandle") && decide ((zm k).2.1.cls ≠ "java/lang/invoke/VarHandle") && Jvm.plainName (zm k).2.1.cls && decide ((zm k).2.1.cls = zCnm (zown k))
def zpar (k : Nat) : Option Nat := (parseMethodDescriptor (zm k).2.1.desc).map (fun d => d.parameters.length)
def zMchk (q : Nat × Nat × Nat) (ps : List Nat) : Bool := match q.2.2 with
  | 0 => zMok ps q.2.1 && zpos (ps.getD 2 0) (.methodLink (zCnm (q.1 / 4096)) (q.1 % 4096) (zm q.2.1).2.1) && zpos (ps.getD 3 0) (.instanceMethod (zm q.2.1).2.1) && zpos (ps.getD 4 0) (.selects (zm q.2.1).2.1.cls (zm q.2.1).2.1 (zm q.2.1).2.1) && decide (zpar q.2.1 = some (znA q.2.1 - 1) ∧ 1 ≤ znA q.2.1 ∧ zown q.2.1 < 11 ∧ (zm q.2.1).2.1.cls = zC (zown q.2.1))
  | 1 => zMok ps q.2.1 && zpos (ps.getD 2 0) (.methodLink (zCnm (q.1 / 4096)) (q.1 % 4096) (zm q.2.1).2.1) && zpos (ps.getD 3 0) (.static (zm q.2.1).2.1) && decide (zpar q.2.1 = some (znA q.2.1))
  | 2 => zMok ps q.2.1 && zpos (ps.getD 2 0) (.methodLink (zCnm (q.1 / 4096)) (q.1 % 4096) (zm q.2.1).2.1) && zpos (ps.getD 3 0) (.instanceMethod (zm q.2.1).2.1) && decide ((zm q.2.1).2.1.name = "<init>" ∧ zpar q.2.1 = some (znA q.2.1 - 1) ∧ 1 ≤ znA q.2.1 ∧ zrty q.2.1 = none)
  | 4 => zMok ps q.2.1 && decide (lw_tbl[ps.getD 2 0]? = some (Jvm.Cond.methodLinkNest (zCnm (q.1 / 4096)) (q.1 % 4096) (zm q.2.1).2.1 zHost)) && zpos (ps.getD 3 0) (.static (zm q.2.1).2.1) && decide (zpar q.2.1 = some (znA q.2.1))
  | 5 => zMok ps q.2.1 && decide (lw_tbl[ps.getD 2 0]? = some (Jvm.Cond.methodLinkNest (zCnm (q.1 / 4096)) (q.1 % 4096) (zm q.2.1).2.1 zHost)) && zpos (ps.getD 3 0) (.instanceMethod (zm q.2.1).2.1) && decide ((zm q.2.1).2.1.name = "<init>" ∧ zpar q.2.1 = some (znA q.2.1 - 1) ∧ 1 ≤ znA q.2.1 ∧ zrty q.2.1 = none)
  | 6 => decide (q.2.1 = 0) && zpos (ps.getD 0 0) (.methodLink (zCnm (q.1 / 4096)) (q.1 % 4096) Jvm.Lib.objectInit)
  | 7 => decide (q.2.1 = 0) && zpos (ps.getD 0 0) (.methodLink (zCnm (q.1 / 4096)) (q.1 % 4096) zRaw)
  | 8 => decide (q.2.1 = 0) && zpos (ps.getD 0 0) (.methodLink (zCnm (q.1 / 4096)) (q.1 % 4096) Lib.Math.abs.name)
  | 9 => decide (q.2.1 = 0) && zpos (ps.getD 0 0) (.methodLink (zCnm (q.1 / 4096)) (q.1 % 4096) Lib.Math.max.name)
  | 10 => decide (q.2.1 = 0) && zpos (ps.getD 0 0) (.methodLink (zCnm (q.1 / 4096)) (q.1 % 4096) Lib.Math.min.name)
  | _ => false
theorem zMl_ok0 : (((zMl.zip zMp).drop 0).take 40).all (fun x => zMchk x.1 x.2) = true := by decide +kernel
theorem zMl_ok1 : (((zMl.zip zMp).drop 40).take 40).all (fun x => zMchk x.1 x.2) = true := by decide +kernel
theorem zMl_ok2 : (((zMl.zip zMp).drop 80).take 40).all (fun x => zMchk x.1 x.2) = true := by decide +kernel
theorem zMl_ok3 : (((zMl.zip zMp).drop 120).take 40).all (fun x => zMchk x.1 x.2) = true := by decide +kernel
theorem zMl_ok4 : (((zMl.zip zMp).drop 160).take 40).all (fun x => zMchk x.1 x.2) = true := by decide +kernel
theorem zMl_ok5 : (((zMl.zip zMp).drop 200).take 40).all (fun x => zMchk x.1 x.2) = true := by decide +kernel
theorem zMl_ok6 : (((zMl.zip zMp).drop 240).take 40).all (fun x => zMchk x.1 x.2) = true := by decide +kernel
theorem zMl_ok7 : (((zMl.zip zMp).drop 280).take 40).all (fun x => zMchk x.1 x.2) = true := by decide +kernel
theorem zMl_end : (zMl.zip zMp).drop 320 = [] := by decide +kernel
theorem zMl_len : zMp.length = zMl.length := by decide +kernel
theorem zall_cut {α : Type} {l : List α} {f : α → Bool} {n : Nat} (h1 : (l.take n).all f = true) (h2 : (l.drop n).all f = true) : l.all f = true := by
  rw [← List.take_append_drop n l, List.all_append, h1, h2]; rfl
theorem zMl_t8 : ((zMl.zip zMp).drop 320).all (fun x => zMchk x.1 x.2) = true := by rw [zMl_end]; rfl
theorem zMl_t7 : ((zMl.zip zMp).drop 280).all (fun x => zMchk x.1 x.2) = true := zall_cut zMl_ok7 (by rw [List.drop_drop]; exact zMl_t8)
theorem zMl_t6 : ((zMl.zip zMp).drop 240).all (fun x => zMchk x.1 x.2) = true := zall_cut zMl_ok6 (by rw [List.drop_drop]; exact zMl_t7)
theorem zMl_t5 : ((zMl.zip zMp).drop 200).all (fun x => zMchk x.1 x.2) = true := zall_cut zMl_ok5 (by rw [List.drop_drop]; exact zMl_t6)
theorem zMl_t4 : ((zMl.zip zMp).drop 160).all (fun x => zMchk x.1 x.2) = true := zall_cut zMl_ok4 (by rw [List.drop_drop]; exact zMl_t5)
theorem zMl_t3 : ((zMl.zip zMp).drop 120).all (fun x => zMchk x.1 x.2) = true := zall_cut zMl_ok3 (by rw [List.drop_drop]; exact zMl_t4)
theorem zMl_t2 : ((zMl.zip zMp).drop 80).all (fun x => zMchk x.1 x.2) = true := zall_cut zMl_ok2 (by rw [List.drop_drop]; exact zMl_t3)
theorem zMl_t1 : ((zMl.zip zMp).drop 40).all (fun x => zMchk x.1 x.2) = true := zall_cut zMl_ok1 (by rw [List.drop_drop]; exact zMl_t2)
theorem zMl_t0 : ((zMl.zip zMp).drop 0).all (fun x => zMchk x.1 x.2) = true := zall_cut zMl_ok0 (by rw [List.drop_drop]; exact zMl_t1)
theorem zzip_mem {α β : Type} {l : List α} {m : List β} (hl : m.length = l.length) {q : α} (h : q ∈ l) : ∃ r, (q, r) ∈ l.zip m := by
  obtain ⟨i, hi, rfl⟩ := List.getElem_of_mem h
  have hi2 : i < m.length := by rw [hl]; exact hi
  refine ⟨m[i], List.mem_iff_getElem.mpr ⟨i, by rw [List.length_zip]; omega, by rw [List.getElem_zip]⟩⟩
theorem zMl_chk {q : Nat × Nat × Nat} (h : q ∈ zMl) : ∃ ps, zMchk q ps = true := by
  obtain ⟨ps, hp⟩ := zzip_mem zMl_len h
  have h0 : (zMl.zip zMp).all (fun x => zMchk x.1 x.2) = true := zMl_t0
  exact ⟨ps, List.all_eq_true.mp h0 (q, ps) hp⟩
theorem zObj_ok : (zin (.instanceMethod Jvm.Lib.objectInit) && zin (.code Jvm.Lib.objectInit ⟨#[0xb1]⟩ 1 none) && zin (.native zRaw) && zin (.static zRaw) && zin (.initialized "java/lang/Double") && zin (.arrayClass .int) && zin (.arrayClass .char) && zin (.arrayClass .boolean) && zin (.static Lib.Math.abs.name) && zin (.static Lib.Math.max.name) && zin (.static Lib.Math.min.name) && zin (.initialized "java/lang/Math") && zin (.code Lib.Math.abs.name Lib.Math.abs.code 1 (some .int)) && zin (.code Lib.Math.max.name Lib.Math.max.code 2 (some .int)) && zin (.code Lib.Math.min.name Lib.Math.min.code 2 (some .int))) = true := by decide +kernel
theorem zKi_ok : zKi.all (fun q => zin (.constant (zCnm (q.1 / 4096)) (q.1 % 4096) (Int32.ofInt q.2))) = true := by decide +kernel
theorem zKl_ok : zKl.all (fun q => zin (.constantLong (zCnm (q.1 / 4096)) (q.1 % 4096) q.2)) = true := by decide +kernel
theorem zKd_ok : zKd.all (fun q => zin (.constantDouble (zCnm (q.1 / 4096)) (q.1 % 4096) q.2)) = true := by decide +kernel
theorem zNl_w : zNl.all (fun q => zin (.classLink (zCnm (q.1 / 4096)) (q.1 % 4096) (zC q.2)) && zin (.instantiable (zC q.2) (zN q.2)) && zin (.initialized (zC q.2))) = true := by decide +kernel
theorem zAn_ok : (zin (.classLink (zCnm 4) 11 zDg) && zin (.classLink (zCnm 7) 21 "[[I") && decide (Jvm.Cond.arrayOver (.object zDg) ∈ lw_tbl) && decide (Jvm.Cond.arrayOver (.array .int) ∈ lw_tbl)) = true := by decide +kernel
/-- where an instruction may go on, beside the next one -/
def zoff (i : Instr) : List Int := match i with
  | .ifCond _ f => [f]
  | .if_icmp _ f => [f]
  | .goto f => [f]
  | .tableswitch d _ _ fs => d :: fs.toList
  | .lookupswitch d ps => d :: ps.toList.map (·.2)
  | _ => []
def zidx (i : Instr) : Nat := match i with
  | .ldc x => x
  | .ldc_w x => x
  | .ldc2_w x => x
  | .getfield x => x
  | .putfield x => x
  | .new x => x
  | .anewarray x => x
  | .multianewarray x _ => x
  | .invokevirtual x => x
  | .invokestatic x => x
  | .invokespecial x => x
  | _ => 0
theorem zst2_all : zCodes.all (fun c => c.all (fun q => (zoff q.2.2).all (fun f => decide (0 ≤ (q.1 : Int) + f)) && decide (zidx q.2.2 < 4096))) = true := by decide +kernel
theorem zft_st2 {k pc n : Nat} {i : Instr} (h : zft k pc = some (n, i)) : (∀ f, f ∈ zoff i → 0 ≤ (pc : Int) + f) ∧ zidx i < 4096 := by
  have h1 := zft_mem h
  by_cases hk : k < zCodes.length
  · rw [List.getD_eq_getElem?_getD, List.getElem?_eq_getElem hk, Option.getD_some] at h1
    have h2 := List.all_eq_true.mp (List.all_eq_true.mp zst2_all _ (List.getElem_mem hk)) _ h1
    simp only [Bool.and_eq_true, decide_eq_true_eq, List.all_eq_true] at h2
    exact h2
  · rw [List.getD_eq_getElem?_getD, List.getElem?_eq_none (by omega), Option.getD_none] at h1
    cases h1
end
section
/-! ints and Int32; the machine's state beside the numbers' state -/
theorem zt {n : Int} (h : zrg n) : (Int32.ofInt n).toInt = n := by
  rw [Int32.toInt_ofInt]
  unfold zrg at h
  have e : (Int32.size : Int) = 4294967296 := rfl
  rw [Int.bmod_def]
  simp only [Int32.size] at *
  omega
theorem zA_w (x : Int) : Int32.ofInt (zw x) = Int32.ofInt x := by
  apply Int32.toInt_inj.mp
  rw [Int32.toInt_ofInt, Int32.toInt_ofInt, Int.bmod_def, Int.bmod_def]
  unfold zw
  simp only [Int32.size] at *
  omega
theorem zA_i (x : Int32) : Int32.ofInt x.toInt = x := Int32.ofInt_toInt x
theorem zA_add (x y : Int) : Int32.ofInt x + Int32.ofInt y = Int32.ofInt (zw (x + y)) := by rw [zA_w, Int32.ofInt_add]
theorem zA_sub (x y : Int) : Int32.ofInt x - Int32.ofInt y = Int32.ofInt (zw (x - y)) := by rw [zA_w, Int32.ofInt_sub]
theorem zA_mul (x y : Int) : Int32.ofInt x * Int32.ofInt y = Int32.ofInt (zw (x * y)) := by rw [zA_w, Int32.ofInt_mul]
theorem zA_neg (x : Int) : -Int32.ofInt x = Int32.ofInt (zw (-x)) := by rw [zA_w, Int32.ofInt_neg]
theorem zA_div {x y : Int} (hx : zrg x) (hy : zrg y) : Int32.ofInt x / Int32.ofInt y = Int32.ofInt (zw (x.tdiv y)) := by
  apply Int32.toInt_inj.mp
  rw [Int32.toInt_div, zt hx, zt hy, zA_w, Int32.toInt_ofInt]
theorem zA_rem {x y : Int} (hx : zrg x) (hy : zrg y) : Int32.ofInt x - Int32.ofInt x / Int32.ofInt y * Int32.ofInt y = Int32.ofInt (x.tmod y) := by
  rw [zA_div hx hy, zA_w, ← Int32.ofInt_mul, ← Int32.ofInt_sub, Int.tmod_def, Int.mul_comm y]
theorem zA_eq {x y : Int} (hx : zrg x) (hy : zrg y) : Int32.ofInt x = Int32.ofInt y ↔ x = y := by
  constructor
  · intro h
    have := congrArg Int32.toInt h
    rwa [zt hx, zt hy] at this
  · intro h; rw [h]
theorem zA_lt {x y : Int} (hx : zrg x) (hy : zrg y) : Int32.ofInt x < Int32.ofInt y ↔ x < y := by rw [Int32.lt_iff_toInt_lt, zt hx, zt hy]
theorem zA_le {x y : Int} (hx : zrg x) (hy : zrg y) : Int32.ofInt x ≤ Int32.ofInt y ↔ x ≤ y := by rw [Int32.le_iff_toInt_le, zt hx, zt hy]
theorem zA_0 : Int32.ofInt 0 = 0 := rfl
theorem zA_in {i : Int} {n : Nat} (h0 : 0 ≤ i) (h1 : i < n) (hn : n ≤ 2147483647) : vp_in (Int32.ofInt i) n ∧ (Int32.ofInt i).toNatClampNeg = i.toNat := by
  have h : zrg i := ⟨by omega, by omega⟩
  have e : (Int32.ofInt i).toNatClampNeg = i.toNat := by
    unfold Int32.toNatClampNeg
    rw [zt h]
  refine ⟨?_, e⟩
  unfold vp_in
  rw [e]
  have h2 : ¬ Int32.ofInt i < 0 := by
    rw [← zA_0, zA_lt h zrg_0]
    omega
  rintro (q | q)
  · exact h2 q
  · omega
-- locals
def zlv (b sc : Nat) : Nat → List ZV → List (Nat × Value)
  | _, [] => []
  | i, v :: l => match v with
    | .inr (.inr (.inr (.inr _))) => zlv b sc (i + 1) l
    | v => (i, zcv b sc v) :: zlv b sc (i + 1) l
def zun (v : ZV) : Bool := match v with
  | .inr (.inr (.inr (.inr _))) => true
  | _ => false
theorem zlv_cons (b sc i : Nat) (v : ZV) (l : List ZV) : zlv b sc i (v :: l) = if zun v = true then zlv b sc (i + 1) l else (i, zcv b sc v) :: zlv b sc (i + 1) l := by
  rcases v with x | x | x | x | x <;> rfl
theorem zlv_mem {b sc : Nat} : ∀ (l : List ZV) (i : Nat) (q : Nat × Value), q ∈ zlv b sc i l ↔ ∃ (j : Nat) (v : ZV), l[j]? = some v ∧ zun v = false ∧ q = (i + j, zcv b sc v)
  | [], i, q => by simp [zlv]
  | v :: l, i, q => by
    rw [zlv_cons]
    split
    · next hv =>
      rw [zlv_mem l (i + 1) q]
      constructor
      · rintro ⟨j, w, h1, h2, h3⟩
        exact ⟨j + 1, w, by simpa using h1, h2, by rw [h3]; congr 1; omega⟩
      · rintro ⟨j, w, h1, h2, h3⟩
        cases j with
        | zero => simp at h1; rw [← h1, hv] at h2; cases h2
        | succ j => exact ⟨j, w, by simpa using h1, h2, by rw [h3]; congr 1; omega⟩
    · next hv =>
      rw [List.mem_cons, zlv_mem l (i + 1) q]
      constructor
      · rintro (h | ⟨j, w, h1, h2, h3⟩)
        · exact ⟨0, v, by simp, by simpa using hv, by rw [h]; rfl⟩
        · exact ⟨j + 1, w, by simpa using h1, h2, by rw [h3]; congr 1; omega⟩
      · rintro ⟨j, w, h1, h2, h3⟩
        cases j with
        | zero => simp at h1; left; rw [h3, ← h1]; rfl
        | succ j => right; exact ⟨j, w, by simpa using h1, h2, by rw [h3]; congr 1; omega⟩
theorem zlv_get {b sc nL : Nat} {lsA : Array Slot} {ls : List ZV} (h : lv_has lsA nL (zlv b sc 0 ls)) {j : Nat} {v : ZV} (hj : ls[j]? = some v) (hv : zun v = false) : lsA[j]? = some (.val (zcv b sc v)) := by
  refine h.2.2 (j, zcv b sc v) ((zlv_mem ls 0 _).mpr ⟨j, v, hj, hv, by simp⟩)
theorem zct_cat (b sc : Nat) (v : ZV) : (zcv b sc v).category = zct v := by rcases v with x | x | x | x | x <;> rfl
theorem zfx_get {ls : List ZV} {j i : Nat} {v : ZV} (h : (zfx ls j)[i]? = some v) (hv : zun v = false) : ls[i]? = some v ∧ ¬ (i + 1 = j ∧ zct v = 2) := by
  unfold zfx at h
  split at h
  · exact ⟨h, by omega⟩
  · next k =>
    split at h
    · next hc =>
      by_cases hi : i = k
      · subst hi
        rw [List.getElem?_set] at h
        split at h
        · split at h
          · cases h; cases hv
          · cases h
        · omega
      · rw [List.getElem?_set_ne (by omega)] at h
        exact ⟨h, by omega⟩
    · next hc =>
      refine ⟨h, ?_⟩
      rintro ⟨h1, h2⟩
      have : i = k := by omega
      subst this
      apply hc
      rw [List.getD_eq_getElem?_getD, h]
      exact h2
theorem zlv_st1 {b sc nL : Nat} {lsA : Array Slot} {ls ls' : List ZV} {j : Nat} {v : ZV} (hv : zun v = false) (e : zs1 ls j v = some ls') {lv' : List (Nat × Value)} (hl : (j, zcv b sc v) :: (zlv b sc 0 ls).filter (fun q => !(q.1 == j) && !(q.1 + 1 == j && q.2.category == 2)) = lv') (h : lv_has lsA nL lv') : lv_has lsA nL (zlv b sc 0 ls') := by
  refine ⟨h.1, h.2.1, fun q hq => h.2.2 q ?_⟩
  rw [← hl]
  unfold zs1 at e
  split at e
  · cases e
    obtain ⟨i, w, h1, h2, rfl⟩ := (zlv_mem _ 0 q).mp hq
    by_cases hi : i = j
    · subst hi
      rw [List.getElem?_set] at h1
      split at h1
      · split at h1
        · cases h1; simp
        · cases h1
      · omega
    · rw [List.getElem?_set_ne (Ne.symm hi)] at h1
      obtain ⟨h3, h4⟩ := zfx_get h1 h2
      refine List.mem_cons_of_mem _ (List.mem_filter.mpr ⟨(zlv_mem ls 0 _).mpr ⟨i, w, h3, h2, rfl⟩, ?_⟩)
      simp only [Nat.zero_add, zct_cat, Bool.and_eq_true, Bool.not_eq_true', beq_eq_false_iff_ne, ne_eq, Bool.and_eq_false_iff]
      refine ⟨hi, ?_⟩
      by_cases h5 : i + 1 = j
      · exact Or.inr (fun h6 => h4 ⟨h5, h6⟩)
      · exact Or.inl h5
  · cases e
theorem zs1_lt {ls ls' : List ZV} {j : Nat} {v : ZV} (e : zs1 ls j v = some ls') : j < ls.length ∧ ls'.length = ls.length := by
  unfold zs1 at e
  split at e
  · next hh =>
    cases e
    refine ⟨hh, ?_⟩
    rw [List.length_set]
    unfold zfx
    split
    · rfl
    · split
      · rw [List.length_set]
      · rfl
  · cases e
theorem zs2_lt {ls ls' : List ZV} {j : Nat} {v : ZV} (e : zs2 ls j v = some ls') : j + 1 < ls.length ∧ ls'.length = ls.length := by
  unfold zs2 at e
  split at e
  · next hh =>
    cases e
    refine ⟨hh, ?_⟩
    rw [List.length_set, List.length_set]
    unfold zfx
    split
    · rfl
    · split
      · rw [List.length_set]
      · rfl
  · cases e
theorem zlv_st2 {b sc nL : Nat} {lsA : Array Slot} {ls ls' : List ZV} {j : Nat} {v : ZV} (hv : zun v = false) (e : zs2 ls j v = some ls') {lv' : List (Nat × Value)} (hl : (j, zcv b sc v) :: (zlv b sc 0 ls).filter (fun q => !(q.1 == j) && (!(q.1 == j + 1) && !(q.1 + 1 == j && q.2.category == 2))) = lv') (h : lv_has lsA nL lv') : lv_has lsA nL (zlv b sc 0 ls') := by
  refine ⟨h.1, h.2.1, fun q hq => h.2.2 q ?_⟩
  rw [← hl]
  unfold zs2 at e
  split at e
  · cases e
    obtain ⟨i, w, h1, h2, rfl⟩ := (zlv_mem _ 0 q).mp hq
    by_cases hk : i = j + 1
    · subst hk
      rw [List.getElem?_set] at h1
      split at h1
      · split at h1
        · cases h1; cases h2
        · cases h1
      · omega
    · rw [List.getElem?_set_ne (Ne.symm hk)] at h1
      by_cases hi : i = j
      · subst hi
        rw [List.getElem?_set] at h1
        split at h1
        · split at h1
          · cases h1; simp
          · cases h1
        · omega
      · rw [List.getElem?_set_ne (Ne.symm hi)] at h1
        obtain ⟨h3, h4⟩ := zfx_get h1 h2
        refine List.mem_cons_of_mem _ (List.mem_filter.mpr ⟨(zlv_mem ls 0 _).mpr ⟨i, w, h3, h2, rfl⟩, ?_⟩)
        simp only [Nat.zero_add, zct_cat, Bool.and_eq_true, Bool.not_eq_true', beq_eq_false_iff_ne, ne_eq, Bool.and_eq_false_iff]
        refine ⟨hi, hk, ?_⟩
        by_cases h5 : i + 1 = j
        · exact Or.inr (fun h6 => h4 ⟨h5, h6⟩)
        · exact Or.inl h5
  · cases e
-- the frame's own facts, and the state's
def zFr (p : Program) (R : Room) (s : State) (m : MethodId) (args : Array Value) (meth : Method) (c : Code) (D : va_G) (cA : Nat → ClassId) (k : Nat) : Prop :=
  p.tables.exec = Jvm.exec ∧ c.code = (zm k).2.2.1 ∧ c.maxLocals = zmax k ∧ s.vm.findClass (zCnm (zown k)) = some m.cls ∧ (∀ w ∈ zWs, w.before args s = true) ∧ zK D cA s ∧ (zini k = true → meth.name = "<init>") ∧ 1 ≤ R.frames ∧ 40 ≤ R.locals
/-- the script's cell, beside the numbers' script -/
def zX (sc : Nat) (h : ZH) (U : State) (H : Heap) : Prop := ∃ (L : Nat) (xs : Nat → Int32), va_X sc L xs U H ∧ L ≤ 2560 ∧ h.2 zSC (-1) = L + 1 ∧ ∀ j : Nat, j < L → h.2 zSC j = (xs j).toInt
def zHR (b sc : Nat) (D : va_G) (cA : Nat → ClassId) (h : ZH) (H : Heap) : Prop := H.size = b + h.1.length ∧ va_P D zCl (zws b sc cA h) H
def zRel (b sc : Nat) (D : va_G) (cA : Nat → ClassId) (s : State) (k : Nat) (ls : List ZV) (h : ZH) (H : Heap) (locs : List Loc) (lsA : Array Slot) : Prop :=
  lv_has lsA (zmax k) (zlv b sc 0 ls) ∧ ls.length = zmax k ∧ zHR b sc D cA h H ∧ (∀ q : Nat, q < b → H[q]? = s.heap[q]?) ∧ (∀ q ∈ locs, b ≤ q.base) ∧ sc < b ∧ zX sc h s H
end
section
/-! the instructions that read and write cells: a step of the numbers is a step of the machine -/
theorem zad_of {b sc a n : Nat} (h : a < n) (hn : n ≤ 3000) : zad b sc a = b + a := by
  unfold zad
  rw [if_neg (fun q => by unfold zSC at q; omega)]
theorem zkn_at {s : ZS} {a ci : Nat} (h : zkn s a = ci) : (s.getD a (99, 0, [])).1 = ci := h
/-- one cell has changed -/
theorem zP_upd {b sc : Nat} {D : va_G} {cA : Nat → ClassId} {h h' : ZH} {H H1 : Heap} {a : Nat} (hP : va_P D zCl (zws b sc cA h) H) (hl : h'.1.length = h.1.length) (hs : ∀ i, i ≠ a → h'.1.getD i (99, 0, []) = h.1.getD i (99, 0, []) ∧ h'.2 i = h.2 i)
    (ha : va_at D zCl (b + a, zce b sc cA (h'.1.getD a (99, 0, [])) (h'.2 a)) H1) (hq : ∀ q, q ≠ b + a → H1[q]? = H[q]?) : va_P D zCl (zws b sc cA h') H1 := by
  intro i x hx
  have hi : i < h'.1.length := by
    have := (List.getElem?_eq_some_iff.mp hx).1
    unfold zws at this
    rwa [List.length_map, List.length_range] at this
  rw [zws_at hi] at hx
  cases hx
  by_cases hia : i = a
  · subst hia; exact ha
  · have h1 := hP i _ (zws_at (by omega))
    rw [(hs i hia).1, (hs i hia).2]
    exact h1.kept (hq _ (by omega))
/-- cells have come -/
theorem zP_app {b sc : Nat} {D : va_G} {cA : Nat → ClassId} {h : ZH} {H H1 : Heap} {t : ZS} {n : Nat} (hP : va_P D zCl (zws b sc cA h) H) (hz : H.size = b + h.1.length)
    (ho : ∀ q, q < H.size → H1[q]? = H[q]?) (hn : ∀ j, j < t.length → va_at D zCl (b + (h.1.length + j), zce b sc cA (t.getD j (99, 0, [])) (zzr h.2 h.1.length n (h.1.length + j))) H1) : va_P D zCl (zws b sc cA (h.1 ++ t, zzr h.2 h.1.length n)) H1 := by
  intro i x hx
  have hi : i < (h.1 ++ t).length := by
    have := (List.getElem?_eq_some_iff.mp hx).1
    unfold zws at this
    rwa [List.length_map, List.length_range] at this
  rw [zws_at hi] at hx
  cases hx
  show va_at D zCl (b + i, zce b sc cA ((h.1 ++ t).getD i (99, 0, [])) (zzr h.2 h.1.length n i)) H1
  by_cases hia : i < h.1.length
  · have h1 := hP i _ (zws_at hia)
    rw [show (h.1 ++ t).getD i (99, 0, []) = h.1.getD i (99, 0, []) by rw [List.getD_eq_getElem?_getD, List.getD_eq_getElem?_getD, List.getElem?_append_left hia]]
    rw [show zzr h.2 h.1.length n i = h.2 i by funext j; unfold zzr; rw [if_neg (by omega)]]
    exact h1.kept (ho _ (by omega))
  · rw [List.length_append] at hi
    have h1 := hn (i - h.1.length) (by omega)
    rw [show h.1.length + (i - h.1.length) = i by omega] at h1
    rw [show (h.1 ++ t).getD i (99, 0, []) = t.getD (i - h.1.length) (99, 0, []) by rw [List.getD_eq_getElem?_getD, List.getD_eq_getElem?_getD, List.getElem?_append_right (by omega)]]
    exact h1
def zKK (p : Program) (l : Launch) (e : Env) (R : Room) (s : State) (m : MethodId) (args : Array Value) (below : List Frame) (meth : Method) (c : Code) (Q : State → Prop) (b sc : Nat) (D : va_G) (cA : Nat → ClassId) (k cells slots : Nat) (h : ZH) (r : Nat × List ZV × List ZV × ZH) : Prop :=
  ∀ (H' : Heap) (locs' : List Loc) (lsA' : Array Slot) (cells' slots' : Nat), zRel b sc D cA s k r.2.1 r.2.2.2 H' locs' lsA' → cells' + h.1.length = cells + r.2.2.2.1.length → slots' + ztot h.1 = slots + ztot r.2.2.2.1 → W p l e R s m args below meth c H' locs' cells' slots' Q (F0 m r.1 lsA' (r.2.2.1.map (zcv b sc)))
theorem zX_kept {sc : Nat} {h h' : ZH} {U : State} {H H1 : Heap} (hX : zX sc h U H) (hq : H1[sc]? = H[sc]?) (hs : ∀ j, h'.2 zSC j = h.2 zSC j) : zX sc h' U H1 := by
  obtain ⟨L, xs, h1, h2, h3, h4⟩ := hX
  exact ⟨L, xs, h1.kept hq, h2, by rw [hs]; exact h3, fun j hj => by rw [hs]; exact h4 j hj⟩
section
variable {p : Program} {l : Launch} {e : Env} {R : Room} {s : State} {m : MethodId} {args : Array Value} {below : List Frame} {meth : Method} {c : Code} {Q : State → Prop} {b sc : Nat} {D : va_G} {cA : Nat → ClassId} {k cells slots : Nat} {H : Heap} {locs : List Loc} {lsA : Array Slot} {pc : Nat} {ls st : List ZV} {h : ZH} {r : Nat × List ZV × List ZV × ZH}
theorem zFl_in {o x : Nat} {q : Nat × Nat} (h : zFl.lookup (zky o x) = some q) (hx : x < 4096) : Cond.fieldLink (zCnm o) x (zT q.1 q.2).1 (zT q.1 q.2).2.1 (zT q.1 q.2).2.2.1 ∈ zWs ∧ q.2 < zN q.1 := by
  have h1 := List.all_eq_true.mp zFl_w _ (zlook_mem h)
  simp only [Bool.and_eq_true, decide_eq_true_eq] at h1
  refine ⟨List.mem_filter.mpr ⟨?_, ?_⟩, h1.2⟩
  · have := h1.1.1
    unfold zFw at this
    simp only [zky_div hx, zky_mod hx] at this
    exact this
  · have := h1.1.2
    unfold zFw at this
    simp only [zky_div hx, zky_mod hx] at this
    exact this
theorem zW_get (F : zFr p R s m args meth c D cA k) (hrel : zRel b sc D cA s k ls h H locs lsA) (hi : zinv h) {x ci kf : Nat} (hlk : zFl.lookup (zky (zown k) x) = some (ci, kf)) (hx : x < 4096) (hd : decode (zm k).2.2.1 pc = .ok (.getfield x, 3)) (eq : zget ci kf (pc + 3) ls st h = some r) (kk : zKK p l e R s m args below meth c Q b sc D cA k cells slots h r) : W p l e R s m args below meth c H locs cells slots Q (F0 m pc lsA (st.map (zcv b sc))) := by
  obtain ⟨hex, hb, hml, hown, hts, hK, -⟩ := F
  unfold zget at eq
  split at eq
  · next a st =>
    split at eq
    · next hk =>
      obtain ⟨hc1, hc2⟩ := zFl_ok hlk
      have ha : a < h.1.length := zkn_lt (by rw [hk]; omega)
      obtain ⟨hw, hkf⟩ := zFl_in hlk hx
      have he : zce b sc cA (h.1.getD a (99, 0, [])) (h.2 a) = .inr (ci, (List.range (zFk.getD ci []).length).map (zfv b sc ci (h.1.getD a (99, 0, [])).2.2 (h.2 a))) := by
        unfold zce
        rw [show (h.1.getD a (99, 0, [])).1 = ci from hk, if_pos (by omega)]
      have hv : ((List.range (zFk.getD ci []).length).map (zfv b sc ci (h.1.getD a (99, 0, [])).2.2 (h.2 a)))[kf]? = some (zfv b sc ci (h.1.getD a (99, 0, [])).2.2 (h.2 a) kf) := by
        rw [List.getElem?_map, List.getElem?_range hc2]; rfl
      show W p l e R s m args below meth c H locs cells slots Q (F0 m pc lsA (.ref (zad b sc a) :: st.map (zcv b sc)))
      rw [zad_of ha hi.2.2]
      refine va_get (C := zC ci) (T := zT ci) (N := zN ci) (own := zCnm (zown k)) (ref := (zT ci kf).1) hex hb hts (zu_in hc1) hown hK.1 hrel.2.2.1.2 a ((zws_at ha).trans (by rw [he])) (zCl_at hc1) kf hkf (hts _ hw) (fun _ q => q) hv hd ?_
      split at eq
      · next hf =>
        split at eq
        · cases eq
        · next q hq =>
          cases eq
          have := kk H locs lsA cells slots hrel rfl rfl
          rw [show zfv b sc ci (h.1.getD a (99, 0, [])).2.2 (h.2 a) kf = .ref (zad b sc q) by unfold zfv; rw [if_pos hf, show (h.1.getD a (99, 0, [])).2.2.getD kf 0 = q + 1 from hq]; rfl]
          exact this
      · next hf =>
        cases eq
        rw [show zfv b sc ci (h.1.getD a (99, 0, [])).2.2 (h.2 a) kf = .int (Int32.ofInt (h.2 a kf)) by unfold zfv; rw [if_neg hf]]
        exact kk H locs lsA cells slots hrel rfl rfl
    · cases eq
  · cases eq
/-- a field is written: the cell as it is then, the heap's size, the other cells -/
theorem zz_put (F : zFr p R s m args meth c D cA k) {ci kf x a : Nat} {rest : List Value} {fs : List Value} (hlk : zFl.lookup (zky (zown k) x) = some (ci, kf)) (hx : x < 4096) (hinit : (zT ci kf).2.2.2 = true → zini k = true ∧ (zT ci kf).1 = zCnm (zown k)) (hat : va_at D zCl (a, .inr (ci, fs)) H) {v : Value} (hn : narrow (ztyp ci kf) v = v) (hfit : fits (ztyp ci kf) v = true) (hl : kf < fs.length) (hd : decode (zm k).2.2.1 pc = .ok (.putfield x, 3))
    (kk : ∀ H1 : Heap, va_at D zCl (a, .inr (ci, fs.set kf v)) H1 → H1.size = H.size → (∀ q, q ≠ a → H1[q]? = H[q]?) → ∀ lo : Loc, lo.base = a → W p l e R s m args below meth c H1 (locs ++ [lo]) cells slots Q (F0 m (pc + 3) lsA rest)) : W p l e R s m args below meth c H locs cells slots Q (F0 m pc lsA (v :: .ref a :: rest)) := by
  obtain ⟨hex, hb, hml, hown, hts, hK, hnm, -⟩ := F
  obtain ⟨hc1, hc2⟩ := zFl_ok hlk
  obtain ⟨hw, hkf⟩ := zFl_in hlk hx
  have hc := zCl_at hc1
  have hin := zu_in hc1
  have hap := va_apart (own := zCnm (zown k)) hts hin (ztyp ci) (ztyp_ok hc1) (znm_ok hc1) hK.1 hc
  obtain ⟨r, h1, cell, q1, q2, q3, q4⟩ := hat
  have hr : r = (zC ci, zT ci, zN ci) := Option.some.inj (h1.symm.trans hc)
  subst hr
  obtain ⟨hS, hfc, kC, hkC, hkind⟩ := hK.1.1 ci _ hc
  obtain ⟨cf, kff, fi, f, hfd, hsl⟩ := hS kf hkf
  have hlay := hts _ (hin _ (u_in_lay hkf))
  have hst := (u_facts hfc hkC (u_lays hts hin hkf) hfd).1
  have hd2 := ztyp_ok hc1 kf hkf
  unfold u_lay at hlay
  by_cases hfin : (zT ci kf).2.2.2 = true
  · rw [if_pos hfin] at hlay
    have hcf : m.cls = cf := by
      obtain ⟨_, _, c', _, _, _, -, -, hf', -, -, -, hown2, -⟩ := Cond.laysFinal_spec hlay
      have e1 : c' = cf := by have := hfd.symm.trans hf'; simp at this; exact this.1.symm
      rw [(hinit hfin).2] at hown2
      rw [← e1]; exact Option.some.inj (hown.symm.trans hown2)
    have h6 := u_fits hfc hkC hkind (Or.inr hlay) hfd hd2 hn hfit
    refine W.putFinK hex hb hown (hts _ hw) hfd hst hcf (hnm (hinit hfin).1) (by rw [q2]; exact h6) q1 q3 (by rw [hsl]; exact k2_hasslot (q4 kf hkf)) rfl rfl hd fun H' e1 e2 e3 => ?_
    rw [hsl] at e1
    exact kk H' ⟨_, hc, t_OB.to (V := updV (vp_V fs) kf v) ⟨_, e1, q2, q3, t_set q4 hap hkf v⟩ (fun j _ => vp_updV_set hl v j)⟩ e2 e3 _ rfl
  · rw [if_neg hfin] at hlay
    have h6 := u_store hfc hkC hkind hlay hfd hd2 hn hfit
    refine W.putK hex hb (f := f) ⟨hown, hts _ hw, ⟨_, _, _, hfd⟩, hst⟩ (by rw [q2]; exact h6) q1 q3 (by rw [hsl]; exact k2_hasslot (q4 kf hkf)) rfl rfl hd fun H' e1 e2 e3 => ?_
    rw [hsl] at e1
    exact kk H' ⟨_, hc, t_OB.to (V := updV (vp_V fs) kf v) ⟨_, e1, q2, q3, t_set q4 hap hkf v⟩ (fun j _ => vp_updV_set hl v j)⟩ e2 e3 _ rfl
theorem zmap_set {α : Type} {n kf : Nat} {f g : Nat → α} {v : α} (h1 : ∀ j, j ≠ kf → g j = f j) (h2 : g kf = v) : ((List.range n).map f).set kf v = (List.range n).map g := by
  refine List.ext_getElem (by simp) fun i q1 q2 => ?_
  rw [List.getElem_set]
  simp only [List.getElem_map, List.getElem_range]
  split
  · next hh => rw [← hh, h2]
  · next hh => exact (h1 i (Ne.symm hh)).symm
theorem zW_put (F : zFr p R s m args meth c D cA k) (hrel : zRel b sc D cA s k ls h H locs lsA) (hi : zinv h) {x ci kf : Nat} (hlk : zFl.lookup (zky (zown k) x) = some (ci, kf)) (hx : x < 4096) (hinit : (zT ci kf).2.2.2 = true → zini k = true ∧ (zT ci kf).1 = zCnm (zown k)) (hd : decode (zm k).2.2.1 pc = .ok (.putfield x, 3)) (eq : zput ci kf (pc + 3) ls st h = some r) (kk : zKK p l e R s m args below meth c Q b sc D cA k cells slots h r) : W p l e R s m args below meth c H locs cells slots Q (F0 m pc lsA (st.map (zcv b sc))) := by
  obtain ⟨hc1, hc2⟩ := zFl_ok hlk
  obtain ⟨hw, hkf⟩ := zFl_in hlk hx
  obtain ⟨t1, t2, t3, t4⟩ := ztyp_k hc1 kf hkf
  obtain ⟨g1, g2, ⟨g3, g4⟩, g5, g6, g7, g8⟩ := hrel
  have he : ∀ a, zkn h.1 a = ci → zce b sc cA (h.1.getD a (99, 0, [])) (h.2 a) = .inr (ci, (List.range (zFk.getD ci []).length).map (zfv b sc ci (h.1.getD a (99, 0, [])).2.2 (h.2 a))) := fun a hk => by
    unfold zce
    rw [show (h.1.getD a (99, 0, [])).1 = ci from hk, if_pos (by omega)]
  unfold zput at eq
  split at eq
  · next v a st =>
    split at eq
    · next hk =>
      cases eq
      have ha : a < h.1.length := zkn_lt (by rw [hk.1]; omega)
      have hne : zfk ci kf ≠ 2 := by rcases hk.2 with q | q <;> omega
      show W p l e R s m args below meth c H locs cells slots Q (F0 m pc lsA (.int (Int32.ofInt v) :: .ref (zad b sc a) :: st.map (zcv b sc)))
      rw [zad_of ha hi.2.2]
      refine zz_put F hlk hx hinit (fs := (List.range (zFk.getD ci []).length).map (zfv b sc ci (h.1.getD a (99, 0, [])).2.2 (h.2 a))) (by have := g4 a _ (zws_at ha); rwa [he a hk.1] at this) ?_ ?_ (by rw [List.length_map, List.length_range]; exact hc2) hd ?_
      · rcases hk.2 with q | ⟨q, z⟩
        · rw [t2 q]; rfl
        · rw [t3 q]; rcases z with rfl | rfl <;> rfl
      · rcases hk.2 with q | ⟨q, z⟩
        · rw [t2 q]; rfl
        · rw [t3 q]; rcases z with rfl | rfl <;> rfl
      · intro H1 e1 e2 e3 lo elo
        refine kk H1 _ lsA cells slots ⟨g1, g2, ⟨by rw [e2]; exact g3, ?_⟩, fun q hq => by rw [e3 q (by omega)]; exact g5 q hq, fun q hq => ?_, g7, zX_kept g8 (e3 sc (by omega)) (fun j => ?_)⟩ rfl rfl
        · refine zP_upd (a := a) g4 rfl (fun i hia => ⟨rfl, ?_⟩) ?_ e3
          · funext j
            show zwr h.2 a kf v i j = h.2 i j
            unfold zwr
            rw [if_neg (fun q => hia q.1)]
          · show va_at D zCl (b + a, zce b sc cA (h.1.getD a (99, 0, [])) (zwr h.2 a kf v a)) H1
            rw [show zce b sc cA (h.1.getD a (99, 0, [])) (zwr h.2 a kf v a) = .inr (ci, (List.range (zFk.getD ci []).length).map (zfv b sc ci (h.1.getD a (99, 0, [])).2.2 (zwr h.2 a kf v a))) by unfold zce; rw [show (h.1.getD a (99, 0, [])).1 = ci from hk.1, if_pos (by omega)]]
            rw [← zmap_set (f := zfv b sc ci (h.1.getD a (99, 0, [])).2.2 (h.2 a)) (kf := kf) (v := .int (Int32.ofInt v))]
            · exact e1
            · intro j hj
              unfold zfv
              congr 3
              unfold zwr
              rw [if_neg (fun q => hj (by have := q.2; omega))]
            · unfold zfv
              rw [if_neg hne]
              unfold zwr
              rw [if_pos ⟨rfl, rfl⟩]
        · rcases List.mem_append.mp hq with hq | hq
          · exact g6 q hq
          · rcases List.mem_singleton.mp hq with rfl; rw [elo]; omega
        · show zwr h.2 a kf v zSC j = _
          unfold zwr
          rw [if_neg (fun q => by have := q.1; have := hi.2.2; unfold zSC at *; omega)]
    · cases eq
  · next v a st =>
    split at eq
    · next hk =>
      cases eq
      obtain ⟨hk1, hk2, hk3⟩ := hk
      have ha : a < h.1.length := zkn_lt (by rw [hk1]; omega)
      show W p l e R s m args below meth c H locs cells slots Q (F0 m pc lsA (.ref (zad b sc v) :: .ref (zad b sc a) :: st.map (zcv b sc)))
      rw [zad_of (b := b) (sc := sc) ha hi.2.2]
      have hrl : kf < (h.1.getD a (99, 0, [])).2.2.length := by
        have := hi.1 _ (zget_mem ha)
        rw [this.1, (this.2.1 (by rw [show (h.1.getD a (99, 0, [])).1 = ci from hk1]; omega)).2, show (h.1.getD a (99, 0, [])).1 = ci from hk1]
        exact hc2
      refine zz_put F hlk hx hinit (fs := (List.range (zFk.getD ci []).length).map (zfv b sc ci (h.1.getD a (99, 0, [])).2.2 (h.2 a))) (by have := g4 a _ (zws_at ha); rwa [he a hk1] at this) ?_ ?_ (by rw [List.length_map, List.length_range]; exact hc2) hd ?_
      · have := t4 hk2
        revert this
        cases ztyp ci kf <;> first | (intro; rfl) | (intro q; cases q)
      · have := t4 hk2
        revert this
        cases ztyp ci kf <;> first | (intro; rfl) | (intro q; cases q)
      · intro H1 e1 e2 e3 lo elo
        refine kk H1 _ lsA cells slots ⟨g1, g2, ⟨by rw [e2, g3]; simp [zsr], ?_⟩, fun q hq => by rw [e3 q (by omega)]; exact g5 q hq, fun q hq => ?_, g7, zX_kept g8 (e3 sc (by omega)) (fun j => rfl)⟩ (by simp [zsr]) (by rw [show ztot (zsr h.1 a kf (v + 1)) = ztot h.1 from ztot_set rfl])
        · refine zP_upd (h := h) (h' := (zsr h.1 a kf (v + 1), h.2)) (a := a) g4 (by simp [zsr]) (fun i hia => ⟨?_, rfl⟩) ?_ e3
          · unfold zsr
            rw [List.getD_eq_getElem?_getD, List.getElem?_set_ne (Ne.symm hia), ← List.getD_eq_getElem?_getD]
          · have hg : (zsr h.1 a kf (v + 1)).getD a (99, 0, []) = ((h.1.getD a (99, 0, [])).1, (h.1.getD a (99, 0, [])).2.1, (h.1.getD a (99, 0, [])).2.2.set kf (v + 1)) := by
              unfold zsr
              rw [List.getD_eq_getElem?_getD, List.getElem?_set_self ha, Option.getD_some]
            show va_at D zCl (b + a, zce b sc cA ((zsr h.1 a kf (v + 1)).getD a (99, 0, [])) (h.2 a)) H1
            rw [hg]
            rw [show zce b sc cA ((h.1.getD a (99, 0, [])).1, (h.1.getD a (99, 0, [])).2.1, (h.1.getD a (99, 0, [])).2.2.set kf (v + 1)) (h.2 a) = .inr (ci, (List.range (zFk.getD ci []).length).map (zfv b sc ci ((h.1.getD a (99, 0, [])).2.2.set kf (v + 1)) (h.2 a))) by unfold zce; rw [show (h.1.getD a (99, 0, [])).1 = ci from hk1, if_pos (by omega)]]
            rw [← zmap_set (f := zfv b sc ci (h.1.getD a (99, 0, [])).2.2 (h.2 a)) (kf := kf) (v := .ref (zad b sc v))]
            · exact e1
            · intro j hj
              unfold zfv
              congr 3
              rw [List.getD_eq_getElem?_getD, List.getElem?_set_ne (Ne.symm hj), ← List.getD_eq_getElem?_getD]
            · unfold zfv
              rw [if_pos hk2, List.getD_eq_getElem?_getD, List.getElem?_set_self hrl, Option.getD_some]
              rfl
        · rcases List.mem_append.mp hq with hq | hq
          · exact g6 q hq
          · rcases List.mem_singleton.mp hq with rfl; rw [elo]; omega
    · cases eq
  · cases eq
end
end
section
/-! arrays: loads, stores, lengths, new ones; new objects -/
section
variable {p : Program} {l : Launch} {e : Env} {R : Room} {s : State} {m : MethodId} {args : Array Value} {below : List Frame} {meth : Method} {c : Code} {Q : State → Prop} {b sc : Nat} {D : va_G} {cA : Nat → ClassId} {k cells slots : Nat} {H : Heap} {locs : List Loc} {lsA : Array Slot} {pc : Nat} {ls st : List ZV} {h : ZH} {r : Nat × List ZV × List ZV × ZH}
theorem zce_arr {c : Nat × Nat × List Nat} {f : Int → Int} {kd : Nat} (hk : c.1 = kd) (h1 : 20 ≤ kd) (h2 : kd < 23) : zce b sc cA c f = .inl (cA kd, (c.2.1, .inl (fun j => Int32.ofInt (f j)))) := by
  unfold zce
  rw [hk, if_neg (by omega), if_pos h2]
theorem zce_ref {c : Nat × Nat × List Nat} {f : Int → Int} {kd : Nat} (hk : c.1 = kd) (h1 : 23 ≤ kd) : zce b sc cA c f = .inl (cA kd, (c.2.1, .inr (.inr (.inr (.inr (fun j => zro b sc (c.2.2.getD j 0))))))) := by
  unfold zce
  rw [hk, if_neg (by omega), if_neg (by omega)]
theorem zset_get {rs : List Nat} {j v : Nat} (hj : j < rs.length) (y : Nat) : (rs.set j v).getD y 0 = if y = j then v else rs.getD y 0 := by
  rw [List.getD_eq_getElem?_getD, List.getD_eq_getElem?_getD]
  by_cases hy : y = j
  · rw [if_pos hy, hy, List.getElem?_set_self hj, Option.getD_some]
  · rw [if_neg hy, List.getElem?_set_ne (Ne.symm hy)]
theorem zty_at {kd t0 : Nat} {ty : FieldType} (h : (zTy cA)[t0]? = some (cA kd, ty)) (hK : zK D cA s) : ArrOfT s (cA kd) ty ∧ va_RA s (cA kd) ty := hK.1.2 t0 _ h
theorem zW_ald {i : Instr} {kd t0 : Nat} {ty : FieldType} (F : zFr p R s m args meth c D cA k) (hrel : zRel b sc D cA s k ls h H locs lsA) (hi : zinv h) (hkd : 20 ≤ kd ∧ kd < 23) (hty : (zTy cA)[t0]? = some (cA kd, ty))
    (row : ∀ {a n : Nat} {f : Nat → Int32} {j : Int32} {rest : List Value} (q0 : Nat), (zws b sc cA h)[q0]? = some (a, .inl (cA kd, n, .inl f)) → vp_in j n → W p l e R s m args below meth c H locs cells slots Q (F0 m (pc + 1) lsA (.int (f j.toNatClampNeg) :: rest)) → W p l e R s m args below meth c H locs cells slots Q (F0 m pc lsA (.int j :: .ref a :: rest)))
    (eq : zald kd (pc + 1) ls st h = some r) (kk : zKK p l e R s m args below meth c Q b sc D cA k cells slots h r) : W p l e R s m args below meth c H locs cells slots Q (F0 m pc lsA (st.map (zcv b sc))) := by
  unfold zald at eq
  split at eq
  · next j a st =>
    split at eq
    · next hk =>
      cases eq
      have ha : a < h.1.length := zkn_lt (by rw [hk.1]; omega)
      have hln : zln h.1 a ≤ 1000 := (hi.1 _ (zget_mem ha)).2.2.2
      obtain ⟨v1, v2⟩ := zA_in (n := zln h.1 a) hk.2.1 hk.2.2 (by omega)
      show W p l e R s m args below meth c H locs cells slots Q (F0 m pc lsA (.int (Int32.ofInt j) :: .ref (zad b sc a) :: st.map (zcv b sc)))
      rw [zad_of ha hi.2.2]
      refine row (n := zln h.1 a) (f := fun j => Int32.ofInt (h.2 a j)) a ((zws_at ha).trans (by rw [zce_arr hk.1 hkd.1 hkd.2]; rfl)) v1 ?_
      have := kk H locs lsA cells slots hrel rfl rfl
      rw [v2, show ((j.toNat : Nat) : Int) = j by omega]
      exact this
    · cases eq
  · cases eq
theorem zW_sld (F : zFr p R s m args meth c D cA k) (hrel : zRel b sc D cA s k ls h H locs lsA) (hi : zinv h) (hd : decode (zm k).2.2.1 pc = .ok (.iaload, 1)) (eq : zsld (pc + 1) ls st h = some r) (kk : zKK p l e R s m args below meth c Q b sc D cA k cells slots h r) : W p l e R s m args below meth c H locs cells slots Q (F0 m pc lsA (st.map (zcv b sc))) := by
  unfold zsld at eq
  split at eq
  · next j a st =>
    split at eq
    · next ha =>
      split at eq
      · next hj =>
        cases eq
        obtain ⟨L, xs, h1, h2, h3, h4⟩ := hrel.2.2.2.2.2.2
        obtain ⟨v1, v2⟩ := zA_in (n := L) hj.1 (by omega) (by omega)
        obtain ⟨scr, s1, s2, s3, s4, s5⟩ := h1
        show W p l e R s m args below meth c H locs cells slots Q (F0 m pc lsA (.int (Int32.ofInt j) :: .ref (zad b sc a) :: st.map (zcv b sc)))
        rw [show zad b sc a = sc by unfold zad; rw [if_pos ha]]
        refine W.iald (v := .int (xs j.toNat)) F.1 F.2.1 s1 s2 s3 (by rw [s4]; exact v1) (by rw [v2]; exact s5 _ (by omega)) rfl rfl hd ?_
        have := kk H locs lsA cells slots hrel rfl rfl
        have e1 : h.2 zSC j = (xs j.toNat).toInt := by rw [← h4 j.toNat (by omega), show ((j.toNat : Nat) : Int) = j by omega]
        rw [← zA_i (xs j.toNat), ← e1]
        exact this
      · cases eq
    · cases eq
  · cases eq
theorem zW_ast {kd t0 : Nat} {ty : FieldType} {ok : Int → Bool} (F : zFr p R s m args meth c D cA k) (hrel : zRel b sc D cA s k ls h H locs lsA) (hi : zinv h) (hs : zoks st) (hkd : 20 ≤ kd ∧ kd < 23) (hty : (zTy cA)[t0]? = some (cA kd, ty)) (hok : ∀ x, zrg x → ok x = true → narrow ty (.int (Int32.ofInt x)) = .int (Int32.ofInt x))
    (row : ∀ {a : Nat} {cell : Cell} {j x : Int32} {rest : List Value}, H[a]? = some cell → s.isArrayOf cell ty → cell.vm ≠ .unknown → ¬ (j < 0 ∨ cell.slots.size ≤ j.toNatClampNeg) → (∀ H' : Heap, H'[a]? = some (cell.setSlot j.toNatClampNeg (narrow ty (.int x))) → H'.size = H.size → (∀ q, q ≠ a → H'[q]? = H[q]?) → W p l e R s m args below meth c H' (locs ++ [⟨a, j.toNatClampNeg⟩]) cells slots Q (F0 m (pc + 1) lsA rest)) → W p l e R s m args below meth c H locs cells slots Q (F0 m pc lsA (.int x :: .int j :: .ref a :: rest)))
    (eq : zast kd (pc + 1) ls st h ok = some r) (kk : zKK p l e R s m args below meth c Q b sc D cA k cells slots h r) : W p l e R s m args below meth c H locs cells slots Q (F0 m pc lsA (st.map (zcv b sc))) := by
  obtain ⟨g1, g2, ⟨g3, g4⟩, g5, g6, g7, g8⟩ := hrel
  unfold zast at eq
  split at eq
  · next x j a st =>
    split at eq
    · next hk =>
      cases eq
      obtain ⟨hk1, hk2, hk3⟩ := hk
      have hxr : zrg x := (zoks_c hs).1
      have ha : a < h.1.length := zkn_lt (by rw [hk1]; omega)
      have hln : zln h.1 a ≤ 1000 := (hi.1 _ (zget_mem ha)).2.2.2
      obtain ⟨v1, v2⟩ := zA_in (n := zln h.1 a) hk2.1 hk2.2 (by omega)
      show W p l e R s m args below meth c H locs cells slots Q (F0 m pc lsA (.int (Int32.ofInt x) :: .int (Int32.ofInt j) :: .ref (zad b sc a) :: st.map (zcv b sc)))
      rw [zad_of ha hi.2.2]
      have hc := g4 a _ (zws_at ha)
      rw [zce_arr hk1 hkd.1 hkd.2] at hc
      have hc : H[b + a]? = some (arrV (cA kd) (zln h.1 a) (fun j => .int (Int32.ofInt (h.2 a j)))) := hc
      refine row hc ((zty_at hty F.2.2.2.2.2.1).1 _ _) (fun q => by cases q) (by rw [arrV_size]; exact v1) fun H1 e1 e2 e3 => ?_
      rw [hok x hxr hk3, arrV_store, v2] at e1
      refine kk H1 _ lsA cells slots ⟨g1, g2, ⟨by rw [e2]; exact g3, ?_⟩, fun q hq => by rw [e3 q (by omega)]; exact g5 q hq, fun q hq => ?_, g7, zX_kept g8 (e3 sc (by omega)) (fun i => ?_)⟩ rfl rfl
      · refine zP_upd (a := a) g4 rfl (fun i hia => ⟨rfl, ?_⟩) ?_ e3
        · funext y
          show zwr h.2 a j x i y = h.2 i y
          unfold zwr
          rw [if_neg (fun q => hia q.1)]
        · show va_at D zCl (b + a, zce b sc cA (h.1.getD a (99, 0, [])) (zwr h.2 a j x a)) H1
          rw [zce_arr hk1 hkd.1 hkd.2]
          show H1[b + a]? = some (arrV (cA kd) (zln h.1 a) (fun y => .int (Int32.ofInt (zwr h.2 a j x a y))))
          rw [e1]
          congr 2
          funext y
          unfold updV zwr
          by_cases hy : y = j.toNat
          · rw [if_pos hy, if_pos ⟨rfl, by omega⟩]
          · rw [if_neg hy, if_neg (fun q => hy (by omega))]
      · rcases List.mem_append.mp hq with hq | hq
        · exact g6 q hq
        · rcases List.mem_singleton.mp hq with rfl; show b ≤ b + a; omega
      · show zwr h.2 a j x zSC i = _
        unfold zwr
        rw [if_neg (fun q => by have := q.1; have := hi.2.2; unfold zSC at *; omega)]
    · cases eq
  · cases eq
theorem zrf_va (b sc q : Nat) : va_rf (zro b sc (q + 1)) = .ref (zad b sc q) := rfl
theorem zW_aal (F : zFr p R s m args meth c D cA k) (hrel : zRel b sc D cA s k ls h H locs lsA) (hi : zinv h) (hd : decode (zm k).2.2.1 pc = .ok (.aaload, 1)) (eq : zaal (pc + 1) ls st h = some r) (kk : zKK p l e R s m args below meth c Q b sc D cA k cells slots h r) : W p l e R s m args below meth c H locs cells slots Q (F0 m pc lsA (st.map (zcv b sc))) := by
  unfold zaal at eq
  split at eq
  · next j a st =>
    split at eq
    · next hk =>
      split at eq
      · cases eq
      · next q hq =>
        cases eq
        obtain ⟨hk1, hk2⟩ := hk
        have ha : a < h.1.length := zkn_lt (by rcases hk1 with z | z <;> omega)
        have hln : zln h.1 a ≤ 1000 := (hi.1 _ (zget_mem ha)).2.2.2
        obtain ⟨v1, v2⟩ := zA_in (n := zln h.1 a) hk2.1 hk2.2 (by omega)
        show W p l e R s m args below meth c H locs cells slots Q (F0 m pc lsA (.int (Int32.ofInt j) :: .ref (zad b sc a) :: st.map (zcv b sc)))
        rw [zad_of (b := b) (sc := sc) ha hi.2.2]
        have hc := hrel.2.2.1.2 a _ (zws_at ha)
        have key : ∀ (kd t0 : Nat) (ty : FieldType), zkn h.1 a = kd → 23 ≤ kd → (zTy cA)[t0]? = some (cA kd, ty) → ty.isReference = true → W p l e R s m args below meth c H locs cells slots Q (F0 m pc lsA (.int (Int32.ofInt j) :: .ref (b + a) :: st.map (zcv b sc))) := by
          intro kd t0 ty hkk h23 hty hrf
          rw [zce_ref hkk h23] at hc
          have hc : H[b + a]? = some (arrV (cA kd) (zln h.1 a) (fun j => va_rf (zro b sc ((h.1.getD a (99, 0, [])).2.2.getD j 0)))) := hc
          refine W.aald (v := .ref (zad b sc q)) F.1 F.2.1 hc ((zty_at hty F.2.2.2.2.2.1).1 _ _) hrf (fun q => by cases q) (by rw [arrV_size]; exact v1) ?_ rfl rfl hd (kk H locs lsA cells slots hrel rfl rfl)
          rw [v2, arrV_read _ _ (by omega), show (h.1.getD a (99, 0, [])).2.2.getD j.toNat 0 = q + 1 from hq]
          rfl
        rcases hk1 with z | z
        · exact key 23 3 _ z (by decide) rfl rfl
        · exact key 24 4 _ z (by decide) rfl rfl
    · cases eq
  · cases eq
theorem zW_aas (F : zFr p R s m args meth c D cA k) (hrel : zRel b sc D cA s k ls h H locs lsA) (hi : zinv h) (hd : decode (zm k).2.2.1 pc = .ok (.aastore, 1)) (eq : zaas (pc + 1) ls st h = some r) (kk : zKK p l e R s m args below meth c Q b sc D cA k cells slots h r) : W p l e R s m args below meth c H locs cells slots Q (F0 m pc lsA (st.map (zcv b sc))) := by
  obtain ⟨g1, g2, ⟨g3, g4⟩, g5, g6, g7, g8⟩ := hrel
  unfold zaas at eq
  split at eq
  · next v j a st =>
    split at eq
    · next hk =>
      cases eq
      obtain ⟨hk1, hk2, hk3⟩ := hk
      have ha : a < h.1.length := zkn_lt (by omega)
      have hv : v < h.1.length := zkn_lt (by omega)
      have hln : zln h.1 a ≤ 1000 := (hi.1 _ (zget_mem ha)).2.2.2
      obtain ⟨v1, v2⟩ := zA_in (n := zln h.1 a) hk3.1 hk3.2 (by omega)
      show W p l e R s m args below meth c H locs cells slots Q (F0 m pc lsA (.ref (zad b sc v) :: .int (Int32.ofInt j) :: .ref (zad b sc a) :: st.map (zcv b sc)))
      rw [zad_of (b := b) (sc := sc) ha hi.2.2, zad_of (b := b) (sc := sc) hv hi.2.2]
      have hc := g4 a _ (zws_at ha)
      rw [zce_ref hk1 (by decide)] at hc
      have hc : H[b + a]? = some (arrV (cA 23) (zln h.1 a) (fun j => va_rf (zro b sc ((h.1.getD a (99, 0, [])).2.2.getD j 0)))) := hc
      have hcv := g4 v _ (zws_at hv)
      rw [show zce b sc cA (h.1.getD v (99, 0, [])) (h.2 v) = .inr (1, (List.range (zFk.getD 1 []).length).map (zfv b sc 1 (h.1.getD v (99, 0, [])).2.2 (h.2 v))) by unfold zce; rw [show (h.1.getD v (99, 0, [])).1 = 1 from hk2, if_pos (by decide)]] at hcv
      obtain ⟨r', hr', cellV, w1, w2, w3, -⟩ := hcv
      have hcls := (F.2.2.2.2.2.1.1.1 1 _ (zCl_at (by decide))).2
      obtain ⟨kA, comp, k1, k2, k3, -⟩ := (zty_at (cA := cA) (kd := 23) (t0 := 3) rfl F.2.2.2.2.2.1).2
      have hcomp : comp = D.1 1 := Option.some.inj (k3.symm.trans hcls.1)
      subst hcomp
      obtain ⟨kC, hkC, -⟩ := hcls.2
      have hrl : j.toNat < (h.1.getD a (99, 0, [])).2.2.length := by
        have := hi.1 _ (zget_mem ha)
        rw [this.1]
        have : j.toNat < zln h.1 a := by omega
        exact this
      refine W.aast F.1 F.2.1 hc (fun q h => by cases h) (fun h => by cases h) k1 k2 rfl hkC ⟨fun q => v1 (Or.inl q), by rw [arrV_size]; exact Nat.not_le.mp fun q => v1 (Or.inr q)⟩ w1 (fun q h => by rw [w3] at h; cases h) (by rw [w2]; exact hkC) (by rw [w2]; exact va_assign hcls) rfl rfl hd fun H1 e1 e2 e3 => ?_
      have e3 : ∀ q : Nat, q ≠ b + a → H1[q]? = H[q]? := e3
      rw [arrV_store, v2] at e1
      refine kk H1 _ lsA cells slots ⟨g1, g2, ⟨by rw [e2, g3]; simp [zsr], ?_⟩, fun q hq => by rw [e3 q (by omega)]; exact g5 q hq, fun q hq => ?_, g7, zX_kept g8 (e3 sc (by omega)) (fun i => rfl)⟩ (by simp [zsr]) (by rw [show ztot (zsr h.1 a j.toNat (v + 1)) = ztot h.1 from ztot_set rfl])
      · refine zP_upd (h := h) (h' := (zsr h.1 a j.toNat (v + 1), h.2)) (a := a) g4 (by simp [zsr]) (fun i hia => ⟨?_, rfl⟩) ?_ e3
        · unfold zsr
          rw [List.getD_eq_getElem?_getD, List.getElem?_set_ne (Ne.symm hia), ← List.getD_eq_getElem?_getD]
        · have hg : (zsr h.1 a j.toNat (v + 1)).getD a (99, 0, []) = ((h.1.getD a (99, 0, [])).1, (h.1.getD a (99, 0, [])).2.1, (h.1.getD a (99, 0, [])).2.2.set j.toNat (v + 1)) := by
            unfold zsr
            rw [List.getD_eq_getElem?_getD, List.getElem?_set_self ha, Option.getD_some]
          show va_at D zCl (b + a, zce b sc cA ((zsr h.1 a j.toNat (v + 1)).getD a (99, 0, [])) (h.2 a)) H1
          rw [hg, zce_ref (kd := 23) (c := ((h.1.getD a (99, 0, [])).1, (h.1.getD a (99, 0, [])).2.1, (h.1.getD a (99, 0, [])).2.2.set j.toNat (v + 1))) hk1 (by decide)]
          show H1[b + a]? = some (arrV (cA 23) (zln h.1 a) (fun y => va_rf (zro b sc (((h.1.getD a (99, 0, [])).2.2.set j.toNat (v + 1)).getD y 0))))
          rw [e1]
          congr 2
          funext y
          unfold updV
          by_cases hy : y = j.toNat
          · rw [if_pos hy, zset_get hrl, if_pos hy]
            show Value.ref (b + v) = .ref (zad b sc v)
            rw [zad_of (b := b) (sc := sc) hv hi.2.2]
          · rw [if_neg hy, zset_get hrl, if_neg hy]
      · rcases List.mem_append.mp hq with hq | hq
        · exact g6 q hq
        · rcases List.mem_singleton.mp hq with rfl; show b ≤ b + a; omega
    · cases eq
  · cases eq
theorem zW_alen (F : zFr p R s m args meth c D cA k) (hrel : zRel b sc D cA s k ls h H locs lsA) (hi : zinv h) (hd : decode (zm k).2.2.1 pc = .ok (.arraylength, 1)) (eq : zalen (pc + 1) ls st h = some r) (kk : zKK p l e R s m args below meth c Q b sc D cA k cells slots h r) : W p l e R s m args below meth c H locs cells slots Q (F0 m pc lsA (st.map (zcv b sc))) := by
  unfold zalen at eq
  split at eq
  · next a st =>
    show W p l e R s m args below meth c H locs cells slots Q (F0 m pc lsA (.ref (zad b sc a) :: st.map (zcv b sc)))
    split at eq
    · next ha =>
      split at eq
      · cases eq
        obtain ⟨L, xs, h1, h2, h3, h4⟩ := hrel.2.2.2.2.2.2
        obtain ⟨scr, s1, s2, s3, s4, s5⟩ := h1
        rw [show zad b sc a = sc by unfold zad; rw [if_pos ha]]
        refine W.alen (n := Int32.ofInt (h.2 zSC (-1) - 1)) F.1 F.2.1 s1 s2 ?_ rfl rfl hd (kk H locs lsA cells slots hrel rfl rfl)
        rw [s4, h3, show (L : Int) + 1 - 1 = L by omega]
        rfl
      · cases eq
    · split at eq
      · next hk =>
        cases eq
        have ha : a < h.1.length := zkn_lt (by omega)
        rw [zad_of (b := b) (sc := sc) ha hi.2.2]
        have hc := hrel.2.2.1.2 a _ (zws_at ha)
        have key : ∀ (kd t0 : Nat) (ty : FieldType), zkn h.1 a = kd → 20 ≤ kd → (zTy cA)[t0]? = some (cA kd, ty) → W p l e R s m args below meth c H locs cells slots Q (F0 m pc lsA (.ref (b + a) :: st.map (zcv b sc))) := by
          intro kd t0 ty hkk h20 hty
          by_cases h23 : kd < 23
          · rw [zce_arr hkk h20 h23] at hc
            have hc : H[b + a]? = some (arrV (cA kd) (zln h.1 a) (fun j => .int (Int32.ofInt (h.2 a j)))) := hc
            refine W.alen (n := Int32.ofInt (zln h.1 a)) F.1 F.2.1 hc ((zty_at hty F.2.2.2.2.2.1).1 _ _) ?_ rfl rfl hd (kk H locs lsA cells slots hrel rfl rfl)
            rw [arrV_size]
            rfl
          · rw [zce_ref hkk (by omega)] at hc
            have hc : H[b + a]? = some (arrV (cA kd) (zln h.1 a) (fun j => va_rf (zro b sc ((h.1.getD a (99, 0, [])).2.2.getD j 0)))) := hc
            refine W.alen (n := Int32.ofInt (zln h.1 a)) F.1 F.2.1 hc ((zty_at hty F.2.2.2.2.2.1).1 _ _) ?_ rfl rfl hd (kk H locs lsA cells slots hrel rfl rfl)
            rw [arrV_size]
            rfl
        have h5 : zkn h.1 a = 20 ∨ zkn h.1 a = 21 ∨ zkn h.1 a = 22 ∨ zkn h.1 a = 23 ∨ zkn h.1 a = 24 := by omega
        rcases h5 with z | z | z | z | z
        · exact key 20 0 _ z (by decide) rfl
        · exact key 21 1 _ z (by decide) rfl
        · exact key 22 2 _ z (by decide) rfl
        · exact key 23 3 _ z (by decide) rfl
        · exact key 24 4 _ z (by decide) rfl
      · cases eq
  · cases eq
end
end
section
/-! new objects and arrays -/
theorem zwk_of {w : Jvm.Cond} (h : zin w = true) : w ∈ zWs := zWs_of h
theorem zout (c : ClassId) (N h0 : Nat) : ∀ i, Jvm.Free.Multi.outerC c N h0 i = arrV c N (fun j => if j < i then .ref (h0 + 1 + j) else .null)
  | 0 => by
    show ({ cls := c, slots := Array.replicate N .null, vm := .none } : Cell) = _
    rw [arrV_new]
    simp
  | i + 1 => by
    show (Jvm.Free.Multi.outerC c N h0 i).setSlot i (.ref (h0 + 1 + i)) = _
    rw [zout c N h0 i, arrV_store]
    congr 1
    funext j
    unfold updV
    by_cases h1 : j = i
    · rw [if_pos h1, if_pos (by omega), h1]
    · rw [if_neg h1]
      show (if j < i then Value.ref (h0 + 1 + j) else Value.null) = _
      by_cases h2 : j < i
      · rw [if_pos h2, if_pos (by omega)]
      · rw [if_neg h2, if_neg (by omega)]
theorem zad_lt {b sc a : Nat} (h : a < 1000000) : zad b sc a = b + a := by
  unfold zad
  rw [if_neg (fun q => by unfold zSC at q; omega)]
theorem ztot_app (s t : ZS) : ztot (s ++ t) = ztot s + ztot t := by unfold ztot; rw [List.map_append, List.sum_append]
theorem ztot_rep (n : Nat) (c : Nat × Nat × List Nat) : ztot (List.replicate n c) = n * c.2.1 := by unfold ztot; rw [List.map_replicate, List.sum_replicate_nat]
section
variable {p : Program} {l : Launch} {e : Env} {R : Room} {s : State} {m : MethodId} {args : Array Value} {below : List Frame} {meth : Method} {c : Code} {Q : State → Prop} {b sc : Nat} {D : va_G} {cA : Nat → ClassId} {k cells slots : Nat} {H : Heap} {locs : List Loc} {lsA : Array Slot} {pc : Nat} {ls st : List ZV} {h : ZH} {r : Nat × List ZV × List ZV × ZH}
theorem zzr_in {M : ZM} {a n j : Nat} (h1 : a ≤ j) (h2 : j ≤ a + n) : zzr M a n j = fun _ => 0 := by
  funext y
  unfold zzr
  rw [if_pos ⟨h1, h2⟩]
theorem zX_app {t : ZS} {n : Nat} {H1 : Heap} (hrel : zRel b sc D cA s k ls h H locs lsA) (hi : zinv h) (hn : h.1.length + n ≤ 4000) (hq : ∀ q : Nat, q < H.size → H1[q]? = H[q]?) : zX sc (h.1 ++ t, zzr h.2 h.1.length n) s H1 := by
  obtain ⟨g1, g2, ⟨g3, g4⟩, g5, g6, g7, g8⟩ := hrel
  refine zX_kept g8 (hq sc (by omega)) (fun j => ?_)
  show zzr h.2 h.1.length n zSC j = _
  unfold zzr
  rw [if_neg (fun q => by have := q.2; unfold zSC at this; omega)]
theorem zW_new (F : zFr p R s m args meth c D cA k) (hrel : zRel b sc D cA s k ls h H locs lsA) (hi : zinv h) {x ci : Nat} (hlk : zNl.lookup (zky (zown k) x) = some ci) (hx : x < 4096) (hd : decode (zm k).2.2.1 pc = .ok (.new x, 3)) (eq : znew ci (pc + 3) ls st h = some r) (hR : cells + r.2.2.2.1.length ≤ R.cells + h.1.length ∧ slots + ztot r.2.2.2.1 ≤ R.slots + ztot h.1) (kk : zKK p l e R s m args below meth c Q b sc D cA k cells slots h r) : W p l e R s m args below meth c H locs cells slots Q (F0 m pc lsA (st.map (zcv b sc))) := by
  obtain ⟨hex, hb, hml, hown, hts, hK, -⟩ := F
  have hci := zNl_ok hlk
  have hw := List.all_eq_true.mp zNl_w _ (zlook_mem hlk)
  simp only [zky_div hx, zky_mod hx, Bool.and_eq_true] at hw
  unfold znew at eq
  split at eq
  · cases eq
  · next hlen =>
    cases eq
    have hN : (zFk.getD ci []).length = zN ci := zN_len hci
    have h1 : cells + 1 ≤ R.cells ∧ slots + zN ci ≤ R.slots := by
      have q1 := hR.1
      have q2 := hR.2
      simp only [List.length_append, List.length_singleton, ztot_app] at q1 q2
      have e1 : ztot [(ci, (zFk.getD ci []).length, List.replicate (zFk.getD ci []).length 0)] = zN ci := by
        show (zFk.getD ci []).length + 0 = zN ci
        omega
      rw [e1] at q2
      omega
    have hKn := hK.1.1 ci _ (zCl_at hci)
    refine W.newcK hex hb hown (hts _ (zwk_of hw.1.1)) (hts _ (zwk_of hw.1.2)) (hts _ (zwk_of hw.2)) rfl hd h1.1 h1.2 hKn.2.1 hrel.2.2.1.1 fun H1 kC hkC e1 z1 o1 => ?_
    have hrel2 := hrel
    obtain ⟨g1, g2, ⟨g3, g4⟩, g5, g6, g7, g8⟩ := hrel
    have o2 : ∀ q : Nat, q < H.size → H1[q]? = H[q]? := fun q hq => o1 q (by omega)
    have hL : zad b sc h.1.length = b + h.1.length := zad_lt (by have := hi.2.2; omega)
    have := kk H1 locs lsA (cells + 1) (slots + zN ci) ⟨g1, g2, ⟨by rw [z1]; simp; omega, ?_⟩, fun q hq => by rw [o2 q (by omega)]; exact g5 q hq, g6, g7, zX_app hrel2 hi (by have := hi.2.2; omega) o2⟩ (by rw [List.length_append, List.length_singleton]; omega) (by rw [ztot_app]; show slots + zN ci + ztot h.1 = slots + (ztot h.1 + ((zFk.getD ci []).length + 0)); omega)
    · rw [← hL]
      exact this
    · refine zP_app g4 g3 o2 fun j hj => ?_
      have hj0 : j = 0 := by simpa using hj
      subst hj0
      rw [zzr_in (by omega) (by omega)]
      have e3 : zce b sc cA (List.getD [(ci, (zFk.getD ci []).length, List.replicate (zFk.getD ci []).length 0)] 0 (99, 0, [])) (fun _ => 0) = .inr (ci, (List.range (zFk.getD ci []).length).map (zfv b sc ci (List.replicate (zFk.getD ci []).length 0) (fun _ => 0))) := by
        unfold zce
        rw [show (List.getD [(ci, (zFk.getD ci []).length, List.replicate (zFk.getD ci []).length 0)] 0 (99, 0, [])) = (ci, (zFk.getD ci []).length, List.replicate (zFk.getD ci []).length 0) from rfl]
        rw [if_pos (by show ci < 20; omega)]
      rw [e3]
      refine ⟨_, zCl_at hci, ?_⟩
      show t_OB (b + (h.1.length + 0)) _ _ _ H1 _
      rw [show b + (h.1.length + 0) = b + h.1.length by omega]
      refine (u_born (ztyp ci) hts (zu_in hci) hKn hkC e1 (ztyp_ok hci)).to fun j hj => ?_
      unfold vp_V
      have e2 : ((List.range (zFk.getD ci []).length).map (zfv b sc ci (List.replicate (zFk.getD ci []).length 0) (fun _ => 0))).getD j .null = zfv b sc ci (List.replicate (zFk.getD ci []).length 0) (fun _ => 0) j := by
        rw [List.getD_eq_getElem?_getD, List.getElem?_map, List.getElem?_range (by rw [hN]; exact hj)]; rfl
      refine Eq.trans ?_ e2.symm
      obtain ⟨t1, t2, t3, t4⟩ := ztyp_k hci j hj
      unfold zfv
      by_cases h2 : zfk ci j = 2
      · rw [if_pos h2]
        have h5 := t4 h2
        rw [show (List.replicate (zFk.getD ci []).length 0).getD j 0 = 0 by rw [List.getD_eq_getElem?_getD, List.getElem?_replicate]; split <;> rfl]
        revert h5
        cases ztyp ci j <;> first | (intro; rfl) | (intro q; cases q)
      · rw [if_neg h2]
        have h5 : zfk ci j = 0 ∨ zfk ci j = 1 := by omega
        rcases h5 with q | q
        · rw [t2 q]; rfl
        · rw [t3 q]; rfl

/-- behind a new array: its cell at the heap's end, everything else as it was -/
theorem zW_arr {kd N : Nat} (hkd : 20 ≤ kd ∧ kd < 24) (hrel : zRel b sc D cA s k ls h H locs lsA) (hi : zinv h) {pc' : Nat} {H1 : Heap}
    (e1 : H1[H.size]? = some (arrV (cA kd) N (fun _ => if kd < 23 then .int 0 else .null))) (z1 : H1.size = H.size + 1) (o1 : ∀ q : Nat, q < H.size → H1[q]? = H[q]?)
    (kk : zKK p l e R s m args below meth c Q b sc D cA k cells slots h (pc', ls, zR h.1.length :: st, (h.1 ++ [(kd, N, List.replicate N 0)], zzr h.2 h.1.length 0))) : W p l e R s m args below meth c H1 locs (cells + 1) (slots + N) Q (F0 m pc' lsA (.ref H.size :: st.map (zcv b sc))) := by
  have hrel2 := hrel
  obtain ⟨g1, g2, ⟨g3, g4⟩, g5, g6, g7, g8⟩ := hrel
  have hL : zad b sc h.1.length = b + h.1.length := zad_lt (by have := hi.2.2; omega)
  have := kk H1 locs lsA (cells + 1) (slots + N) ⟨g1, g2, ⟨by rw [z1]; simp; omega, ?_⟩, fun q hq => by rw [o1 q (by omega)]; exact g5 q hq, g6, g7, zX_app hrel2 hi (by have := hi.2.2; omega) o1⟩ (by rw [List.length_append, List.length_singleton]; omega) (by rw [ztot_app]; show slots + N + ztot h.1 = slots + (ztot h.1 + (N + 0)); omega)
  · rw [g3, ← hL]
    exact this
  · refine zP_app g4 g3 o1 fun j hj => ?_
    have hj0 : j = 0 := by simpa using hj
    subst hj0
    rw [zzr_in (by omega) (by omega)]
    have e3 : List.getD [(kd, N, List.replicate N 0)] 0 (99, 0, []) = (kd, N, List.replicate N 0) := rfl
    rw [e3]
    by_cases h23 : kd < 23
    · rw [zce_arr (kd := kd) rfl hkd.1 h23]
      show H1[b + (h.1.length + 0)]? = some (arrV (cA kd) N (fun _ => .int (Int32.ofInt 0)))
      rw [show b + (h.1.length + 0) = H.size by omega, e1, if_pos h23]
      rfl
    · rw [zce_ref (kd := kd) rfl (by omega)]
      show H1[b + (h.1.length + 0)]? = some (arrV (cA kd) N (fun j => va_rf (zro b sc ((List.replicate N 0).getD j 0))))
      rw [show b + (h.1.length + 0) = H.size by omega, e1, if_neg h23]
      congr 2
      funext j
      rw [show (List.replicate N 0).getD j 0 = 0 by rw [List.getD_eq_getElem?_getD, List.getElem?_replicate]; split <;> rfl]
      rfl
theorem zA_len {x : Int} (h0 : 0 ≤ x) (h1 : x ≤ 1000) : ¬ Int32.ofInt x < 0 ∧ (Int32.ofInt x).toNatClampNeg = x.toNat := by
  obtain ⟨v1, v2⟩ := zA_in (i := x) (n := 1001) h0 (by omega) (by omega)
  exact ⟨fun q => v1 (Or.inl q), v2⟩
theorem zW_nwa (F : zFr p R s m args meth c D cA k) (hrel : zRel b sc D cA s k ls h H locs lsA) (hi : zinv h) {t : ArrayType} (ht : zat t < 99) (hd : decode (zm k).2.2.1 pc = .ok (.newarray t, 2)) (eq : znwa (zat t) (pc + 2) ls st h = some r) (hR : cells + r.2.2.2.1.length ≤ R.cells + h.1.length ∧ slots + ztot r.2.2.2.1 ≤ R.slots + ztot h.1) (kk : zKK p l e R s m args below meth c Q b sc D cA k cells slots h r) : W p l e R s m args below meth c H locs cells slots Q (F0 m pc lsA (st.map (zcv b sc))) := by
  obtain ⟨hex, hb, hml, hown, hts, hK, -⟩ := F
  unfold znwa at eq
  split at eq
  · next x st =>
    split at eq
    · next hx =>
      cases eq
      obtain ⟨v1, v2⟩ := zA_len hx.1.1 hx.1.2
      have hR1 : cells + 1 ≤ R.cells ∧ slots + x.toNat ≤ R.slots := by
        have q1 := hR.1
        have q2 := hR.2
        simp only [List.length_append, List.length_singleton, ztot_app] at q1 q2
        have e1 : ztot [(zat t, x.toNat, List.replicate x.toNat 0)] = x.toNat := by
          show x.toNat + 0 = x.toNat
          omega
        rw [e1] at q2
        omega
      have hts' := hts
      show W p l e R s m args below meth c H locs cells slots Q (F0 m pc lsA (.int (Int32.ofInt x) :: st.map (zcv b sc)))
      have key : ∀ (kd t0 : Nat) (ty : FieldType), zat t = kd → 20 ≤ kd ∧ kd < 23 → newarray.typeOf t = ty → defaultValue ty = .int 0 → componentBytes ty ≤ 4 → (zTy cA)[t0]? = some (cA kd, ty) → (∀ C, ty ≠ .object C) → Cond.arrayClass ty ∈ zWs → W p l e R s m args below meth c H locs cells slots Q (F0 m pc lsA (.int (Int32.ofInt x) :: st.map (zcv b sc))) := by
        intro kd t0 ty hkk h20 htt hdf hcb hty hno hwd
        refine va_newaK hex hb (hts _ (by rw [htt]; exact hwd)) rfl hd rfl v1 v2 (by rw [htt]; exact Nat.le_trans (Nat.mul_le_mul (show x.toNat ≤ 1000 by omega) hcb) (by decide)) hR1.1 hR1.2 rfl fun H1 cA' e1 z1 o1 hAr hNm => ?_
        rw [htt] at e1 hNm
        have hcc : cA' = cA kd := by
          have h5 := (zty_at hty hK).2
          unfold va_RA at h5
          split at h5
          · exact absurd rfl (hno _)
          · exact Option.some.inj (hNm.symm.trans h5)
        subst hcc
        refine zW_arr (kd := kd) ⟨h20.1, by omega⟩ hrel hi (by rw [e1, hdf, if_pos h20.2]) z1 o1 ?_
        rw [← hkk]
        exact kk
      have ho := zObj_ok
      simp only [Bool.and_eq_true] at ho
      cases t
      case int => exact key 20 0 .int rfl (by decide) rfl rfl (by decide) rfl (fun C q => by cases q) (zwk_of (by decide +kernel))
      case char => exact key 21 1 .char rfl (by decide) rfl rfl (by decide) rfl (fun C q => by cases q) (zwk_of (by decide +kernel))
      case boolean => exact key 22 2 .boolean rfl (by decide) rfl rfl (by decide) rfl (fun C q => by cases q) (zwk_of (by decide +kernel))
      all_goals exact absurd ht (by decide)
    · cases eq
  · cases eq
theorem zW_anew (F : zFr p R s m args meth c D cA k) (hrel : zRel b sc D cA s k ls h H locs lsA) (hi : zinv h) {x : Nat} (hx : x < 4096) (ho : zky (zown k) x = 16395) (hd : decode (zm k).2.2.1 pc = .ok (.anewarray x, 3)) (eq : znwa 23 (pc + 3) ls st h = some r) (hR : cells + r.2.2.2.1.length ≤ R.cells + h.1.length ∧ slots + ztot r.2.2.2.1 ≤ R.slots + ztot h.1) (kk : zKK p l e R s m args below meth c Q b sc D cA k cells slots h r) : W p l e R s m args below meth c H locs cells slots Q (F0 m pc lsA (st.map (zcv b sc))) := by
  obtain ⟨hex, hb, hml, hown, hts, hK, -⟩ := F
  have ho1 : zown k = 4 ∧ x = 11 := by unfold zky at ho; omega
  obtain ⟨ho1, rfl⟩ := ho1
  rw [ho1] at hown
  have haw := zAn_ok
  simp only [Bool.and_eq_true] at haw
  unfold znwa at eq
  split at eq
  · next x st =>
    split at eq
    · next hx =>
      cases eq
      obtain ⟨v1, v2⟩ := zA_len hx.1.1 hx.1.2
      have hR1 : cells + 1 ≤ R.cells ∧ slots + x.toNat ≤ R.slots := by
        have q1 := hR.1
        have q2 := hR.2
        simp only [List.length_append, List.length_singleton, ztot_app] at q1 q2
        have e1 : ztot [(23, x.toNat, List.replicate x.toNat 0)] = x.toNat := by
          show x.toNat + 0 = x.toNat
          omega
        rw [e1] at q2
        omega
      show W p l e R s m args below meth c H locs cells slots Q (F0 m pc lsA (.int (Int32.ofInt x) :: st.map (zcv b sc)))
      refine W.anew hex hb hown (hts _ (zwk_of haw.1.1.1)) (va_AO.use hK.2.2.1) rfl hd rfl v1 (by rw [v2]; omega) hR1.1 (by rw [v2]; exact hR1.2) fun cA' kA comp f1 f2 f3 f4 => ?_
      have hcc : cA' = cA 23 := by
        obtain ⟨kA', comp', r1, r2, r3, r4⟩ := (zty_at (cA := cA) (kd := 23) (t0 := 3) rfl hK).2
        exact Option.some.inj (f1.symm.trans r4)
      subst hcc
      rw [v2]
      refine zW_arr (kd := 23) (by decide) hrel hi ?_ (by simp) (fun q hq => by rw [Array.getElem?_push, if_neg (Nat.ne_of_lt hq)]) kk
      rw [Array.getElem?_push_size, ← arrV_new]
      rfl
    · cases eq
  · cases eq

theorem zcons_get {α : Type} (a : α) (t : List α) (j : Nat) (d : α) : (a :: t).getD j d = if j = 0 then a else t.getD (j - 1) d := by
  cases j with
  | zero => rfl
  | succ j => rfl
theorem zrep_get {α : Type} (a : α) {n j : Nat} (d : α) (h : j < n) : (List.replicate n a).getD j d = a := by
  rw [List.getD_eq_getElem?_getD, List.getElem?_replicate, if_pos h]; rfl
theorem zW_mna (F : zFr p R s m args meth c D cA k) (hrel : zRel b sc D cA s k ls h H locs lsA) (hi : zinv h) {x : Nat} (hx : x < 4096) (ho : zky (zown k) x = 28693) (hd : decode (zm k).2.2.1 pc = .ok (.multianewarray x 2, 4)) (eq : zmna (pc + 4) ls st h = some r) (hR : cells + r.2.2.2.1.length ≤ R.cells + h.1.length ∧ slots + ztot r.2.2.2.1 ≤ R.slots + ztot h.1) (kk : zKK p l e R s m args below meth c Q b sc D cA k cells slots h r) : W p l e R s m args below meth c H locs cells slots Q (F0 m pc lsA (st.map (zcv b sc))) := by
  obtain ⟨hex, hb, hml, hown, hts, hK, -⟩ := F
  have ho1 : zown k = 7 ∧ x = 21 := by unfold zky at ho; omega
  obtain ⟨ho1, rfl⟩ := ho1
  rw [ho1] at hown
  have haw := zAn_ok
  simp only [Bool.and_eq_true] at haw
  unfold zmna at eq
  split at eq
  · next y x st =>
    split at eq
    · next hx =>
      cases eq
      obtain ⟨hy, hxx, hlen⟩ := hx
      obtain ⟨v1, v2⟩ := zA_len hy.1 hy.2
      obtain ⟨w1, w2⟩ := zA_len hxx.1 (show x ≤ 1000 by omega)
      have hT : ztot ((24, x.toNat, (List.range x.toNat).map (fun i => h.1.length + 1 + i + 1)) :: List.replicate x.toNat (20, y.toNat, List.replicate y.toNat 0)) = x.toNat + x.toNat * y.toNat := by
        have := ztot_rep x.toNat (20, y.toNat, List.replicate y.toNat 0)
        unfold ztot at this ⊢
        rw [List.map_cons, List.sum_cons, this]
      have hR1 : cells + (1 + x.toNat) ≤ R.cells ∧ slots + (x.toNat + x.toNat * y.toNat) ≤ R.slots := by
        have q1 := hR.1
        have q2 := hR.2
        simp only [List.length_append, List.length_cons, List.length_replicate, ztot_app] at q1 q2
        rw [hT] at q2
        omega
      show W p l e R s m args below meth c H locs cells slots Q (F0 m pc lsA (.int (Int32.ofInt y) :: .int (Int32.ofInt x) :: st.map (zcv b sc)))
      intro T hTH Xs
      obtain ⟨vm₁, cA', comp, -, fA, fC, hO, -, X', step⟩ := Xs.multianewarray2F hex (ty := .int) hown (hts _ (zwk_of haw.1.1.2)) hK.2.2.2 (hts _ (zwk_of (by decide +kernel))) (g := F0 m pc lsA (.int (Int32.ofInt y) :: .int (Int32.ofInt x) :: st.map (zcv b sc))) rfl (by rw [hb]; exact hd) rfl w1 v1 (by rw [w2]; omega) (by rw [v2]; show y.toNat * 4 ≤ _; omega) (by rw [v2]; omega) rfl rfl (by rw [w2]; exact hR1.1) (by rw [w2, v2]; exact hR1.2)
      have hc1 : comp = cA 20 := by
        have h5 := (zty_at (cA := cA) (kd := 20) (t0 := 0) rfl hK).2
        exact Option.some.inj (fC.symm.trans h5)
      have hc2 : cA' = cA 24 := by
        have h5 := (zty_at (cA := cA) (kd := 24) (t0 := 4) rfl hK).2
        exact Option.some.inj (fA.symm.trans h5)
      subst hc1
      subst hc2
      rw [w2, v2] at X' step
      have hTh : (T.setVm vm₁).heap = H := hTH
      obtain ⟨f1, f2, -, -⟩ := Jvm.Free.Multi.fill_facts (T.setVm vm₁) (cA 24) (cA 20) x.toNat y.toNat (defaultValue .int) x.toNat
      have f3 := fun (q : Nat) (hq : q < H.size) => Jvm.Free.Multi.fill_old (T.setVm vm₁) (cA 24) (cA 20) x.toNat y.toNat (defaultValue .int) (a := q) (by rw [hTh]; exact hq) x.toNat
      have f4 := fun (j : Nat) (hj : j < x.toNat) => Jvm.Free.Multi.fill_inner (T.setVm vm₁) (cA 24) (cA 20) x.toNat y.toNat (defaultValue .int) x.toNat j hj
      generalize Jvm.Free.Multi.fill (T.setVm vm₁) (cA 24) (cA 20) x.toNat y.toNat (defaultValue .int) x.toNat = Fs at X' step f1 f2 f3 f4
      rw [hTh] at f1 f2
      have f3 : ∀ q : Nat, q < H.size → Fs.heap[q]? = H[q]? := fun q hq => by rw [f3 q hq, hTh]
      have f4 : ∀ j : Nat, j < x.toNat → Fs.heap[H.size + 1 + j]? = some (arrV (cA 20) y.toNat (fun _ => .int 0)) := fun j hj => by
        have := f4 j hj
        rw [hTh] at this
        rw [this, ← arrV_new]
        rfl
      rw [zout] at f2
      have hrel2 := hrel
      obtain ⟨g1, g2, ⟨g3, g4⟩, g5, g6, g7, g8⟩ := hrel
      have hL : zad b sc h.1.length = b + h.1.length := zad_lt (by have := hi.2.2; omega)
      have := kk Fs.heap locs lsA (cells + 1 + x.toNat) (slots + x.toNat + x.toNat * y.toNat) ⟨g1, g2, ⟨by rw [f1]; simp; omega, ?_⟩, fun q hq => by rw [f3 q (by omega)]; exact g5 q hq, g6, g7, zX_app hrel2 hi (by have := hi.2.2; omega) f3⟩ (by rw [List.length_append, List.length_cons, List.length_replicate]; omega) (by rw [ztot_app, hT]; omega)
      · obtain ⟨t, a1, b1⟩ := this Fs rfl X'
        refine ⟨t, step t ?_, b1⟩
        have e5 : (T.heap.size : Nat) = zad b sc h.1.length := by rw [hTH, hL, g3]
        rw [e5]
        exact a1
      · refine zP_app g4 g3 f3 fun j hj => ?_
        rw [List.length_cons, List.length_replicate] at hj
        rw [zzr_in (by omega) (by omega), zcons_get]
        by_cases hj0 : j = 0
        · subst hj0
          rw [if_pos rfl, zce_ref (kd := 24) rfl (by decide)]
          show Fs.heap[b + (h.1.length + 0)]? = some (arrV (cA 24) x.toNat (fun j => va_rf (zro b sc (((List.range x.toNat).map (fun i => h.1.length + 1 + i + 1)).getD j 0))))
          rw [show b + (h.1.length + 0) = H.size by omega, f2]
          congr 2
          funext i
          by_cases hix : i < x.toNat
          · rw [if_pos hix, List.getD_eq_getElem?_getD, List.getElem?_map, List.getElem?_range hix]
            show Value.ref (H.size + 1 + i) = .ref (zad b sc (h.1.length + 1 + i))
            rw [zad_lt (by have := hi.2.2; omega), show b + (h.1.length + 1 + i) = H.size + 1 + i by omega]
          · rw [if_neg hix, List.getD_eq_getElem?_getD, List.getElem?_map, List.getElem?_eq_none (by rw [List.length_range]; omega)]
            rfl
        · rw [if_neg hj0, zrep_get _ _ (by omega), zce_arr (kd := 20) rfl (by decide) (by decide)]
          show Fs.heap[b + (h.1.length + j)]? = some (arrV (cA 20) y.toNat (fun _ => .int (Int32.ofInt 0)))
          rw [show b + (h.1.length + j) = H.size + 1 + (j - 1) by omega, f4 (j - 1) (by omega)]
          rfl
    · cases eq
  · cases eq
end
end
section
def zdP (k : Nat) : Prop := zdk (zm k).2.2.1 (zCodes.getD k []) = true
theorem zq_0 : ∀ a, a < 1 → zdP a := lt_s lt_0 zd_0
theorem zq_1 : ∀ a, a < 2 → zdP a := lt_s zq_0 zd_1
theorem zq_2 : ∀ a, a < 3 → zdP a := lt_s zq_1 zd_2
theorem zq_3 : ∀ a, a < 4 → zdP a := lt_s zq_2 zd_3
theorem zq_4 : ∀ a, a < 5 → zdP a := lt_s zq_3 zd_4
theorem zq_5 : ∀ a, a < 6 → zdP a := lt_s zq_4 zd_5
theorem zq_6 : ∀ a, a < 7 → zdP a := lt_s zq_5 zd_6
theorem zq_7 : ∀ a, a < 8 → zdP a := lt_s zq_6 zd_7
theorem zq_8 : ∀ a, a < 9 → zdP a := lt_s zq_7 zd_8
theorem zq_9 : ∀ a, a < 10 → zdP a := lt_s zq_8 zd_9
theorem zq_10 : ∀ a, a < 11 → zdP a := lt_s zq_9 zd_10
theorem zq_11 : ∀ a, a < 12 → zdP a := lt_s zq_10 zd_11
theorem zq_12 : ∀ a, a < 13 → zdP a := lt_s zq_11 zd_12
theorem zq_13 : ∀ a, a < 14 → zdP a := lt_s zq_12 zd_13
theorem zq_14 : ∀ a, a < 15 → zdP a := lt_s zq_13 zd_14
theorem zq_15 : ∀ a, a < 16 → zdP a := lt_s zq_14 zd_15
theorem zq_16 : ∀ a, a < 17 → zdP a := lt_s zq_15 zd_16
theorem zq_17 : ∀ a, a < 18 → zdP a := lt_s zq_16 zd_17
theorem zq_18 : ∀ a, a < 19 → zdP a := lt_s zq_17 zd_18
theorem zq_19 : ∀ a, a < 20 → zdP a := lt_s zq_18 zd_19
theorem zq_20 : ∀ a, a < 21 → zdP a := lt_s zq_19 zd_20
theorem zq_21 : ∀ a, a < 22 → zdP a := lt_s zq_20 zd_21
theorem zq_22 : ∀ a, a < 23 → zdP a := lt_s zq_21 zd_22
theorem zq_23 : ∀ a, a < 24 → zdP a := lt_s zq_22 zd_23
theorem zq_24 : ∀ a, a < 25 → zdP a := lt_s zq_23 zd_24
theorem zq_25 : ∀ a, a < 26 → zdP a := lt_s zq_24 zd_25
theorem zq_26 : ∀ a, a < 27 → zdP a := lt_s zq_25 zd_26
theorem zq_27 : ∀ a, a < 28 → zdP a := lt_s zq_26 zd_27
theorem zq_28 : ∀ a, a < 29 → zdP a := lt_s zq_27 zd_28
theorem zq_29 : ∀ a, a < 30 → zdP a := lt_s zq_28 zd_29
theorem zq_30 : ∀ a, a < 31 → zdP a := lt_s zq_29 zd_30
theorem zq_31 : ∀ a, a < 32 → zdP a := lt_s zq_30 zd_31
theorem zq_32 : ∀ a, a < 33 → zdP a := lt_s zq_31 zd_32
theorem zq_33 : ∀ a, a < 34 → zdP a := lt_s zq_32 zd_33
theorem zq_34 : ∀ a, a < 35 → zdP a := lt_s zq_33 zd_34
theorem zq_35 : ∀ a, a < 36 → zdP a := lt_s zq_34 zd_35
theorem zq_36 : ∀ a, a < 37 → zdP a := lt_s zq_35 zd_36
theorem zq_37 : ∀ a, a < 38 → zdP a := lt_s zq_36 zd_37
theorem zq_38 : ∀ a, a < 39 → zdP a := lt_s zq_37 zd_38
theorem zq_39 : ∀ a, a < 40 → zdP a := lt_s zq_38 zd_39
theorem zq_40 : ∀ a, a < 41 → zdP a := lt_s zq_39 zd_40
theorem zq_41 : ∀ a, a < 42 → zdP a := lt_s zq_40 zd_41
theorem zq_42 : ∀ a, a < 43 → zdP a := lt_s zq_41 zd_42
theorem zq_43 : ∀ a, a < 44 → zdP a := lt_s zq_42 zd_43
theorem zq_44 : ∀ a, a < 45 → zdP a := lt_s zq_43 zd_44
theorem zq_45 : ∀ a, a < 46 → zdP a := lt_s zq_44 zd_45
theorem zq_46 : ∀ a, a < 47 → zdP a := lt_s zq_45 zd_46
theorem zq_47 : ∀ a, a < 48 → zdP a := lt_s zq_46 zd_47
theorem zq_48 : ∀ a, a < 49 → zdP a := lt_s zq_47 zd_48
theorem zq_49 : ∀ a, a < 50 → zdP a := lt_s zq_48 zd_49
theorem zq_50 : ∀ a, a < 51 → zdP a := lt_s zq_49 zd_50
theorem zq_51 : ∀ a, a < 52 → zdP a := lt_s zq_50 zd_51
theorem zq_52 : ∀ a, a < 53 → zdP a := lt_s zq_51 zd_52
theorem zq_53 : ∀ a, a < 54 → zdP a := lt_s zq_52 zd_53
theorem zq_54 : ∀ a, a < 55 → zdP a := lt_s zq_53 zd_54
theorem zq_55 : ∀ a, a < 56 → zdP a := lt_s zq_54 zd_55
theorem zq_56 : ∀ a, a < 57 → zdP a := lt_s zq_55 zd_56
theorem zq_57 : ∀ a, a < 58 → zdP a := lt_s zq_56 zd_57
theorem zq_58 : ∀ a, a < 59 → zdP a := lt_s zq_57 zd_58
theorem zq_59 : ∀ a, a < 60 → zdP a := lt_s zq_58 zd_59
theorem zq_60 : ∀ a, a < 61 → zdP a := lt_s zq_59 zd_60
theorem zq_61 : ∀ a, a < 62 → zdP a := lt_s zq_60 zd_61
theorem zq_62 : ∀ a, a < 63 → zdP a := lt_s zq_61 zd_62
theorem zq_63 : ∀ a, a < 64 → zdP a := lt_s zq_62 zd_63
theorem zq_64 : ∀ a, a < 65 → zdP a := lt_s zq_63 zd_64
theorem zq_65 : ∀ a, a < 66 → zdP a := lt_s zq_64 zd_65
theorem zq_66 : ∀ a, a < 67 → zdP a := lt_s zq_65 zd_66
theorem zq_67 : ∀ a, a < 68 → zdP a := lt_s zq_66 zd_67
theorem zq_68 : ∀ a, a < 69 → zdP a := lt_s zq_67 zd_68
theorem zq_69 : ∀ a, a < 70 → zdP a := lt_s zq_68 zd_69
theorem zq_70 : ∀ a, a < 71 → zdP a := lt_s zq_69 zd_70
theorem zq_71 : ∀ a, a < 72 → zdP a := lt_s zq_70 zd_71
theorem zq_72 : ∀ a, a < 73 → zdP a := lt_s zq_71 zd_72
theorem zq_73 : ∀ a, a < 74 → zdP a := lt_s zq_72 zd_73
theorem zq_74 : ∀ a, a < 75 → zdP a := lt_s zq_73 zd_74
theorem zq_75 : ∀ a, a < 76 → zdP a := lt_s zq_74 zd_75
theorem zq_76 : ∀ a, a < 77 → zdP a := lt_s zq_75 zd_76
theorem zq_77 : ∀ a, a < 78 → zdP a := lt_s zq_76 zd_77
theorem zq_78 : ∀ a, a < 79 → zdP a := lt_s zq_77 zd_78
theorem zq_79 : ∀ a, a < 80 → zdP a := lt_s zq_78 zd_79
theorem zq_80 : ∀ a, a < 81 → zdP a := lt_s zq_79 zd_80
theorem zq_81 : ∀ a, a < 82 → zdP a := lt_s zq_80 zd_81
theorem zq_82 : ∀ a, a < 83 → zdP a := lt_s zq_81 zd_82
theorem zq_83 : ∀ a, a < 84 → zdP a := lt_s zq_82 zd_83
theorem zq_84 : ∀ a, a < 85 → zdP a := lt_s zq_83 zd_84
theorem zq_85 : ∀ a, a < 86 → zdP a := lt_s zq_84 zd_85
theorem zq_86 : ∀ a, a < 87 → zdP a := lt_s zq_85 zd_86
theorem zq_87 : ∀ a, a < 88 → zdP a := lt_s zq_86 zd_87
theorem zq_88 : ∀ a, a < 89 → zdP a := lt_s zq_87 zd_88
theorem zq_89 : ∀ a, a < 90 → zdP a := lt_s zq_88 zd_89
theorem zq_90 : ∀ a, a < 91 → zdP a := lt_s zq_89 zd_90
theorem zq_91 : ∀ a, a < 92 → zdP a := lt_s zq_90 zd_91
theorem zq_92 : ∀ a, a < 93 → zdP a := lt_s zq_91 zd_92
theorem zq_93 : ∀ a, a < 94 → zdP a := lt_s zq_92 zd_93
theorem zq_94 : ∀ a, a < 95 → zdP a := lt_s zq_93 zd_94
theorem zq_95 : ∀ a, a < 96 → zdP a := lt_s zq_94 zd_95
theorem zq_96 : ∀ a, a < 97 → zdP a := lt_s zq_95 zd_96
theorem zq_97 : ∀ a, a < 98 → zdP a := lt_s zq_96 zd_97
theorem zq_98 : ∀ a, a < 99 → zdP a := lt_s zq_97 zd_98
theorem zq_99 : ∀ a, a < 100 → zdP a := lt_s zq_98 zd_99
theorem zq_100 : ∀ a, a < 101 → zdP a := lt_s zq_99 zd_100
theorem zq_101 : ∀ a, a < 102 → zdP a := lt_s zq_100 zd_101
theorem zq_102 : ∀ a, a < 103 → zdP a := lt_s zq_101 zd_102
theorem zq_103 : ∀ a, a < 104 → zdP a := lt_s zq_102 zd_103
theorem zq_104 : ∀ a, a < 105 → zdP a := lt_s zq_103 zd_104
theorem zq_105 : ∀ a, a < 106 → zdP a := lt_s zq_104 zd_105
theorem zq_106 : ∀ a, a < 107 → zdP a := lt_s zq_105 zd_106
theorem zq_107 : ∀ a, a < 108 → zdP a := lt_s zq_106 zd_107
theorem zq_108 : ∀ a, a < 109 → zdP a := lt_s zq_107 zd_108
theorem zq_109 : ∀ a, a < 110 → zdP a := lt_s zq_108 zd_109
theorem zq_110 : ∀ a, a < 111 → zdP a := lt_s zq_109 zd_110
theorem zq_111 : ∀ a, a < 112 → zdP a := lt_s zq_110 zd_111
theorem zq_112 : ∀ a, a < 113 → zdP a := lt_s zq_111 zd_112
theorem zq_113 : ∀ a, a < 114 → zdP a := lt_s zq_112 zd_113
theorem zq_114 : ∀ a, a < 115 → zdP a := lt_s zq_113 zd_114
theorem zq_115 : ∀ a, a < 116 → zdP a := lt_s zq_114 zd_115
theorem zq_116 : ∀ a, a < 117 → zdP a := lt_s zq_115 zd_116
theorem zq_117 : ∀ a, a < 118 → zdP a := lt_s zq_116 zd_117
theorem zq_118 : ∀ a, a < 119 → zdP a := lt_s zq_117 zd_118
theorem zq_119 : ∀ a, a < 120 → zdP a := lt_s zq_118 zd_119
theorem zq_120 : ∀ a, a < 121 → zdP a := lt_s zq_119 zd_120
theorem zq_121 : ∀ a, a < 122 → zdP a := lt_s zq_120 zd_121
theorem zq_122 : ∀ a, a < 123 → zdP a := lt_s zq_121 zd_122
theorem zq_123 : ∀ a, a < 124 → zdP a := lt_s zq_122 zd_123
theorem zq_124 : ∀ a, a < 125 → zdP a := lt_s zq_123 zd_124
theorem zq_125 : ∀ a, a < 126 → zdP a := lt_s zq_124 zd_125
theorem zq_126 : ∀ a, a < 127 → zdP a := lt_s zq_125 zd_126
theorem zq_127 : ∀ a, a < 128 → zdP a := lt_s zq_126 zd_127
theorem zq_128 : ∀ a, a < 129 → zdP a := lt_s zq_127 zd_128
theorem zq_129 : ∀ a, a < 130 → zdP a := lt_s zq_128 zd_129
theorem zq_130 : ∀ a, a < 131 → zdP a := lt_s zq_129 zd_130
theorem zq_131 : ∀ a, a < 132 → zdP a := lt_s zq_130 zd_131
theorem zq_132 : ∀ a, a < 133 → zdP a := lt_s zq_131 zd_132
theorem zq_133 : ∀ a, a < 134 → zdP a := lt_s zq_132 zd_133
theorem zq_134 : ∀ a, a < 135 → zdP a := lt_s zq_133 zd_134
theorem zq_135 : ∀ a, a < 136 → zdP a := lt_s zq_134 zd_135
theorem zq_136 : ∀ a, a < 137 → zdP a := lt_s zq_135 zd_136
theorem zq_137 : ∀ a, a < 138 → zdP a := lt_s zq_136 zd_137
theorem zq_138 : ∀ a, a < 139 → zdP a := lt_s zq_137 zd_138
theorem zq_139 : ∀ a, a < 140 → zdP a := lt_s zq_138 zd_139
theorem zq_140 : ∀ a, a < 141 → zdP a := lt_s zq_139 zd_140
theorem zq_141 : ∀ a, a < 142 → zdP a := lt_s zq_140 zd_141
theorem zq_142 : ∀ a, a < 143 → zdP a := lt_s zq_141 zd_142
theorem zq_143 : ∀ a, a < 144 → zdP a := lt_s zq_142 zd_143
theorem zq_144 : ∀ a, a < 145 → zdP a := lt_s zq_143 zd_144
theorem zq_145 : ∀ a, a < 146 → zdP a := lt_s zq_144 zd_145
theorem zq_146 : ∀ a, a < 147 → zdP a := lt_s zq_145 zd_146
theorem zq_147 : ∀ a, a < 148 → zdP a := lt_s zq_146 zd_147
theorem zq_148 : ∀ a, a < 149 → zdP a := lt_s zq_147 zd_148
theorem zq_149 : ∀ a, a < 150 → zdP a := lt_s zq_148 zd_149
theorem zq_150 : ∀ a, a < 151 → zdP a := lt_s zq_149 zd_150
theorem zq_151 : ∀ a, a < 152 → zdP a := lt_s zq_150 zd_151
theorem zq_152 : ∀ a, a < 153 → zdP a := lt_s zq_151 zd_152
theorem zq_153 : ∀ a, a < 154 → zdP a := lt_s zq_152 zd_153
theorem zq_154 : ∀ a, a < 155 → zdP a := lt_s zq_153 zd_154
theorem zq_155 : ∀ a, a < 156 → zdP a := lt_s zq_154 zd_155
theorem zq_156 : ∀ a, a < 157 → zdP a := lt_s zq_155 zd_156
theorem zq_157 : ∀ a, a < 158 → zdP a := lt_s zq_156 zd_157
theorem zq_158 : ∀ a, a < 159 → zdP a := lt_s zq_157 zd_158
theorem zq_159 : ∀ a, a < 160 → zdP a := lt_s zq_158 zd_159
theorem zq_160 : ∀ a, a < 161 → zdP a := lt_s zq_159 zd_160
theorem zq_161 : ∀ a, a < 162 → zdP a := lt_s zq_160 zd_161
theorem zq_162 : ∀ a, a < 163 → zdP a := lt_s zq_161 zd_162
theorem zq_163 : ∀ a, a < 164 → zdP a := lt_s zq_162 zd_163
theorem zq_164 : ∀ a, a < 165 → zdP a := lt_s zq_163 zd_164
theorem zq_165 : ∀ a, a < 166 → zdP a := lt_s zq_164 zd_165
theorem zq_166 : ∀ a, a < 167 → zdP a := lt_s zq_165 zd_166
theorem zq_167 : ∀ a, a < 168 → zdP a := lt_s zq_166 zd_167
theorem zq_168 : ∀ a, a < 169 → zdP a := lt_s zq_167 zd_168
theorem zq_169 : ∀ a, a < 170 → zdP a := lt_s zq_168 zd_169
theorem zq_170 : ∀ a, a < 171 → zdP a := lt_s zq_169 zd_170
theorem zq_171 : ∀ a, a < 172 → zdP a := lt_s zq_170 zd_171
theorem zq_172 : ∀ a, a < 173 → zdP a := lt_s zq_171 zd_172
theorem zq_173 : ∀ a, a < 174 → zdP a := lt_s zq_172 zd_173
theorem zq_174 : ∀ a, a < 175 → zdP a := lt_s zq_173 zd_174
theorem zq_175 : ∀ a, a < 176 → zdP a := lt_s zq_174 zd_175
theorem zq_176 : ∀ a, a < 177 → zdP a := lt_s zq_175 zd_176
theorem zq_177 : ∀ a, a < 178 → zdP a := lt_s zq_176 zd_177
theorem zq_178 : ∀ a, a < 179 → zdP a := lt_s zq_177 zd_178
theorem zq_179 : ∀ a, a < 180 → zdP a := lt_s zq_178 zd_179
theorem zq_180 : ∀ a, a < 181 → zdP a := lt_s zq_179 zd_180
theorem zq_181 : ∀ a, a < 182 → zdP a := lt_s zq_180 zd_181
theorem zq_182 : ∀ a, a < 183 → zdP a := lt_s zq_181 zd_182
theorem zq_183 : ∀ a, a < 184 → zdP a := lt_s zq_182 zd_183
theorem zq_184 : ∀ a, a < 185 → zdP a := lt_s zq_183 zd_184
theorem zq_185 : ∀ a, a < 186 → zdP a := lt_s zq_184 zd_185
theorem zq_186 : ∀ a, a < 187 → zdP a := lt_s zq_185 zd_186
theorem zq_187 : ∀ a, a < 188 → zdP a := lt_s zq_186 zd_187
theorem zq_188 : ∀ a, a < 189 → zdP a := lt_s zq_187 zd_188
theorem zq_189 : ∀ a, a < 190 → zdP a := lt_s zq_188 zd_189
theorem zq_190 : ∀ a, a < 191 → zdP a := lt_s zq_189 zd_190
theorem zq_191 : ∀ a, a < 192 → zdP a := lt_s zq_190 zd_191
theorem zq_192 : ∀ a, a < 193 → zdP a := lt_s zq_191 zd_192
theorem zq_193 : ∀ a, a < 194 → zdP a := lt_s zq_192 zd_193
theorem zq_194 : ∀ a, a < 195 → zdP a := lt_s zq_193 zd_194
theorem zq_195 : ∀ a, a < 196 → zdP a := lt_s zq_194 zd_195
theorem zq_196 : ∀ a, a < 197 → zdP a := lt_s zq_195 zd_196
theorem zq_197 : ∀ a, a < 198 → zdP a := lt_s zq_196 zd_197
theorem zq_198 : ∀ a, a < 199 → zdP a := lt_s zq_197 zd_198
theorem zq_199 : ∀ a, a < 200 → zdP a := lt_s zq_198 zd_199
theorem zq_200 : ∀ a, a < 201 → zdP a := lt_s zq_199 zd_200
theorem zq_201 : ∀ a, a < 202 → zdP a := lt_s zq_200 zd_201
theorem zq_202 : ∀ a, a < 203 → zdP a := lt_s zq_201 zd_202
theorem zq_203 : ∀ a, a < 204 → zdP a := lt_s zq_202 zd_203
theorem zq_204 : ∀ a, a < 205 → zdP a := lt_s zq_203 zd_204
theorem zq_205 : ∀ a, a < 206 → zdP a := lt_s zq_204 zd_205
theorem zq_206 : ∀ a, a < 207 → zdP a := lt_s zq_205 zd_206
theorem zq_207 : ∀ a, a < 208 → zdP a := lt_s zq_206 zd_207
theorem zq_208 : ∀ a, a < 209 → zdP a := lt_s zq_207 zd_208
theorem zq_209 : ∀ a, a < 210 → zdP a := lt_s zq_208 zd_209
theorem zq_210 : ∀ a, a < 211 → zdP a := lt_s zq_209 zd_210
theorem zq_211 : ∀ a, a < 212 → zdP a := lt_s zq_210 zd_211
theorem zq_212 : ∀ a, a < 213 → zdP a := lt_s zq_211 zd_212
theorem zq_213 : ∀ a, a < 214 → zdP a := lt_s zq_212 zd_213
theorem zq_214 : ∀ a, a < 215 → zdP a := lt_s zq_213 zd_214
theorem zq_215 : ∀ a, a < 216 → zdP a := lt_s zq_214 zd_215
theorem zq_216 : ∀ a, a < 217 → zdP a := lt_s zq_215 zd_216
theorem zq_217 : ∀ a, a < 218 → zdP a := lt_s zq_216 zd_217
theorem zq_218 : ∀ a, a < 219 → zdP a := lt_s zq_217 zd_218
theorem zq_219 : ∀ a, a < 220 → zdP a := lt_s zq_218 zd_219
theorem zq_220 : ∀ a, a < 221 → zdP a := lt_s zq_219 zd_220
theorem zq_221 : ∀ a, a < 222 → zdP a := lt_s zq_220 zd_221
theorem zq_222 : ∀ a, a < 223 → zdP a := lt_s zq_221 zd_222
theorem zq_223 : ∀ a, a < 224 → zdP a := lt_s zq_222 zd_223
theorem zq_224 : ∀ a, a < 225 → zdP a := lt_s zq_223 zd_224
theorem zq_225 : ∀ a, a < 226 → zdP a := lt_s zq_224 zd_225
theorem zq_226 : ∀ a, a < 227 → zdP a := lt_s zq_225 zd_226
theorem zq_227 : ∀ a, a < 228 → zdP a := lt_s zq_226 zd_227
theorem zq_228 : ∀ a, a < 229 → zdP a := lt_s zq_227 zd_228
theorem zq_229 : ∀ a, a < 230 → zdP a := lt_s zq_228 zd_229
theorem zq_230 : ∀ a, a < 231 → zdP a := lt_s zq_229 zd_230
theorem zq_231 : ∀ a, a < 232 → zdP a := lt_s zq_230 zd_231
theorem zq_232 : ∀ a, a < 233 → zdP a := lt_s zq_231 zd_232
theorem zq_233 : ∀ a, a < 234 → zdP a := lt_s zq_232 zd_233
theorem zq_234 : ∀ a, a < 235 → zdP a := lt_s zq_233 zd_234
theorem zq_235 : ∀ a, a < 236 → zdP a := lt_s zq_234 zd_235
theorem zq_236 : ∀ a, a < 237 → zdP a := lt_s zq_235 zd_236
theorem zq_237 : ∀ a, a < 238 → zdP a := lt_s zq_236 zd_237
theorem zq_238 : ∀ a, a < 239 → zdP a := lt_s zq_237 zd_238
theorem zq_239 : ∀ a, a < 240 → zdP a := lt_s zq_238 zd_239
theorem zq_240 : ∀ a, a < 241 → zdP a := lt_s zq_239 zd_240
theorem zq_241 : ∀ a, a < 242 → zdP a := lt_s zq_240 zd_241
theorem zq_242 : ∀ a, a < 243 → zdP a := lt_s zq_241 zd_242
theorem zq_243 : ∀ a, a < 244 → zdP a := lt_s zq_242 zd_243
theorem zq_244 : ∀ a, a < 245 → zdP a := lt_s zq_243 zd_244
theorem zq_245 : ∀ a, a < 246 → zdP a := lt_s zq_244 zd_245
theorem zq_246 : ∀ a, a < 247 → zdP a := lt_s zq_245 zd_246
theorem zq_247 : ∀ a, a < 248 → zdP a := lt_s zq_246 zd_247
theorem zq_248 : ∀ a, a < 249 → zdP a := lt_s zq_247 zd_248
theorem zq_249 : ∀ a, a < 250 → zdP a := lt_s zq_248 zd_249
theorem zq_250 : ∀ a, a < 251 → zdP a := lt_s zq_249 zd_250
theorem zq_251 : ∀ a, a < 252 → zdP a := lt_s zq_250 zd_251
theorem zq_252 : ∀ a, a < 253 → zdP a := lt_s zq_251 zd_252
theorem zq_253 : ∀ a, a < 254 → zdP a := lt_s zq_252 zd_253
theorem zq_254 : ∀ a, a < 255 → zdP a := lt_s zq_253 zd_254
theorem zq_255 : ∀ a, a < 256 → zdP a := lt_s zq_254 zd_255
theorem zd_at {k pc n : Nat} {i : Instr} (hk : k < 256) (h : zft k pc = some (n, i)) : decode (zm k).2.2.1 pc = .ok (i, n) := by
  have h1 : zdk (zm k).2.2.1 (zCodes.getD k []) = true := zq_255 k hk
  have h2 := List.all_eq_true.mp h1 _ (zft_mem h)
  simpa using h2
def zpf (k : Nat) (i : Instr) : Bool := match i with
  | .putfield x => match zFl.lookup (zky (zown k) x) with
    | some (ci, kf) => !(zT ci kf).2.2.2 || (zini k && (zT ci kf).1 == zCnm (zown k))
    | none => true
  | _ => true
theorem zpf_all : ∀ k, k < 256 → (zCodes.getD k []).all (fun q => zpf k q.2.2) = true := by decide +kernel
theorem zpf_at {k pc n x ci kf : Nat} (hk : k < 256) (h : zft k pc = some (n, .putfield x)) (hl : zFl.lookup (zky (zown k) x) = some (ci, kf)) : (zT ci kf).2.2.2 = true → zini k = true ∧ (zT ci kf).1 = zCnm (zown k) := by
  have h2 := List.all_eq_true.mp (zpf_all k hk) _ (zft_mem h)
  simp only [zpf, hl] at h2
  intro hf
  rw [hf] at h2
  simpa using h2
end
section
/-! every instruction that is no call and no return -/
theorem zoff_mem {ps : List (Int × Int)} {d x : Int} : Op.lookupswitch.offset ps d x ∈ d :: ps.map (·.2) := by
  induction ps with
  | nil => exact List.mem_cons_self
  | cons a r ih =>
    rw [Op.lookupswitch.offset_cons]
    split
    · exact List.mem_cons_of_mem _ List.mem_cons_self
    · rcases List.mem_cons.mp ih with h | h
      · rw [h]; exact List.mem_cons_self
      · exact List.mem_cons_of_mem _ (List.mem_cons_of_mem _ h)
theorem zjmp_of {pc : Nat} {f : Int} (h : 0 ≤ (pc : Int) + f) : (pc : Int) + f = (zjmp pc f : Int) := by unfold zjmp; omega
section
variable {p : Program} {l : Launch} {e : Env} {R : Room} {s : State} {m : MethodId} {args : Array Value} {below : List Frame} {meth : Method} {c : Code} {Q : State → Prop} {b sc : Nat} {D : va_G} {cA : Nat → ClassId} {k cells slots : Nat} {H : Heap} {locs : List Loc} {lsA : Array Slot} {pc : Nat} {ls st : List ZV} {h : ZH} {r : Nat × List ZV × List ZV × ZH}
abbrev zGo (p : Program) (l : Launch) (e : Env) (R : Room) (s : State) (m : MethodId) (args : Array Value) (below : List Frame) (meth : Method) (c : Code) (Q : State → Prop) (b sc cells slots : Nat) (H : Heap) (locs : List Loc) (lsA : Array Slot) (pc : Nat) (st : List ZV) : Prop := W p l e R s m args below meth c H locs cells slots Q (F0 m pc lsA (st.map (zcv b sc)))
theorem zgi_some {j : Nat} {v : ZV} (h : zgi ls j = some v) : ∃ x, v = zI x ∧ ls[j]? = some (zI x) := by
  unfold zgi at h
  split at h
  · next x hx => cases h; exact ⟨x, rfl, hx⟩
  · cases h
theorem zga_some {j : Nat} {v : ZV} (h : zga ls j = some v) : ∃ x, v = zR x ∧ ls[j]? = some (zR x) := by
  unfold zga at h
  split at h
  · next x hx => cases h; exact ⟨x, rfl, hx⟩
  · cases h
theorem zgl_some {j : Nat} {v : ZV} (h : zgl ls j = some v) : ∃ x, v = zL x ∧ ls[j]? = some (zL x) := by
  unfold zgl at h
  split at h
  · next x hx => cases h; exact ⟨x, rfl, hx⟩
  · cases h
theorem zgd_some {j : Nat} {v : ZV} (h : zgd ls j = some v) : ∃ x, v = zD x ∧ ls[j]? = some (zD x) := by
  unfold zgd at h
  split at h
  · next x hx => cases h; exact ⟨x, rfl, hx⟩
  · cases h
theorem zsi_some {j pc' : Nat} (h' : zsi pc' ls st h j = some r) : ∃ x st0 l', st = zI x :: st0 ∧ zs1 ls j (zI x) = some l' ∧ r = (pc', l', st0, h) := by
  unfold zsi at h'
  split at h'
  · next x st0 =>
    obtain ⟨l', h1, rfl⟩ := Option.map_eq_some_iff.mp h'
    exact ⟨x, st0, l', rfl, h1, rfl⟩
  · cases h'
theorem zsa_some {j pc' : Nat} (h' : zsa pc' ls st h j = some r) : ∃ x st0 l', st = zR x :: st0 ∧ zs1 ls j (zR x) = some l' ∧ r = (pc', l', st0, h) := by
  unfold zsa at h'
  split at h'
  · next x st0 =>
    obtain ⟨l', h1, rfl⟩ := Option.map_eq_some_iff.mp h'
    exact ⟨x, st0, l', rfl, h1, rfl⟩
  · cases h'
theorem zsl_some {j pc' : Nat} (h' : zsl pc' ls st h j = some r) : ∃ x st0 l', st = zL x :: st0 ∧ zs2 ls j (zL x) = some l' ∧ r = (pc', l', st0, h) := by
  unfold zsl at h'
  split at h'
  · next x st0 =>
    obtain ⟨l', h1, rfl⟩ := Option.map_eq_some_iff.mp h'
    exact ⟨x, st0, l', rfl, h1, rfl⟩
  · cases h'
theorem zsd_some {j pc' : Nat} (h' : zsd pc' ls st h j = some r) : ∃ x st0 l', st = zD x :: st0 ∧ zs2 ls j (zD x) = some l' ∧ r = (pc', l', st0, h) := by
  unfold zsd at h'
  split at h'
  · next x st0 =>
    obtain ⟨l', h1, rfl⟩ := Option.map_eq_some_iff.mp h'
    exact ⟨x, st0, l', rfl, h1, rfl⟩
  · cases h'
theorem zbi_some {pc' : Nat} {f : Int → Int → Option Int} (h' : zbi pc' ls st h f = some r) : ∃ x y v st0, st = zI y :: zI x :: st0 ∧ f x y = some v ∧ r = (pc', ls, zI v :: st0, h) := by
  unfold zbi at h'
  split at h'
  · next y x st0 =>
    obtain ⟨v, h1, rfl⟩ := Option.map_eq_some_iff.mp h'
    exact ⟨x, y, v, st0, rfl, h1, rfl⟩
  · cases h'
theorem zbl_some {pc' : Nat} {f : Int64 → Int64 → ZV} (h' : zbl pc' ls st h f = some r) : ∃ x y st0, st = zL y :: zL x :: st0 ∧ r = (pc', ls, f x y :: st0, h) := by
  unfold zbl at h'
  split at h'
  · next y x st0 => cases h'; exact ⟨x, y, st0, rfl, rfl⟩
  · cases h'
theorem zbd_some {pc' : Nat} {f : UInt64 → UInt64 → Option ZV} (h' : zbd pc' ls st h f = some r) : ∃ x y v st0, st = zD y :: zD x :: st0 ∧ f x y = some v ∧ r = (pc', ls, v :: st0, h) := by
  unfold zbd at h'
  split at h'
  · next y x st0 =>
    obtain ⟨v, h1, rfl⟩ := Option.map_eq_some_iff.mp h'
    exact ⟨x, y, v, st0, rfl, h1, rfl⟩
  · cases h'
theorem znan_some {q : UInt64} {v : ZV} (h' : znan q = some v) : vf_n64 q ∧ v = zD q := by
  unfold znan at h'
  split at h'
  · next hh => cases h'; exact ⟨hh, rfl⟩
  · cases h'
theorem zsame (hrel : zRel b sc D cA s k ls h H locs lsA) {ls' : List ZV} {lsA' : Array Slot} (h1 : lv_has lsA' (zmax k) (zlv b sc 0 ls')) (h2 : ls'.length = ls.length) : zRel b sc D cA s k ls' h H locs lsA' := ⟨h1, h2.trans hrel.2.1, hrel.2.2⟩
/-- a branch on one int -/
theorem zW_if (F : zFr p R s m args meth c D cA k) {cd : Jvm.ClassFile.Cond} {off : Int} {x : Int} {st0 : List ZV} (hx : zrg x) (hd : decode (zm k).2.2.1 pc = .ok (.ifCond cd off, 3)) (ho : 0 ≤ (pc : Int) + off)
    (kk : zGo p l e R s m args below meth c Q b sc cells slots H locs lsA (if zcmp cd x 0 = true then zjmp pc off else pc + 3) st0) : zGo p l e R s m args below meth c Q b sc cells slots H locs lsA pc (zI x :: st0) := by
  obtain ⟨hex, hb, -⟩ := F
  have hj := zjmp_of ho
  have h0 := zrg_0
  unfold zcmp at kk
  cases cd
  · refine lv_if_eq (x := Int32.ofInt x) hex hb hd hj (fun q => ?_) (fun q => ?_)
    · rw [← zA_0, zA_eq hx h0] at q
      rw [if_pos (by simpa using q)] at kk
      exact kk
    · rw [← zA_0, zA_eq hx h0] at q
      rw [if_neg (by simpa using q)] at kk
      exact kk
  · refine lv_if_ne (x := Int32.ofInt x) hex hb hd hj (fun q => ?_) (fun q => ?_)
    · rw [← zA_0, zA_eq hx h0] at q
      rw [if_pos (by simpa using q)] at kk
      exact kk
    · rw [← zA_0, zA_eq hx h0] at q
      rw [if_neg (by simpa using q)] at kk
      exact kk
  · refine lv_if_lt (x := Int32.ofInt x) hex hb hd hj (fun q => ?_) (fun q => ?_)
    · rw [← zA_0, zA_lt hx h0] at q
      rw [if_pos (by simpa using q)] at kk
      exact kk
    · rw [← zA_0, zA_lt hx h0] at q
      rw [if_neg (by simpa using q)] at kk
      exact kk
  · refine lv_if_ge (x := Int32.ofInt x) hex hb hd hj (fun q => ?_) (fun q => ?_)
    · rw [← zA_0, zA_le h0 hx] at q
      rw [if_pos (by simpa using q)] at kk
      exact kk
    · rw [← zA_0, zA_le h0 hx] at q
      rw [if_neg (by simpa using q)] at kk
      exact kk
  · refine lv_if_gt (x := Int32.ofInt x) hex hb hd hj (fun q => ?_) (fun q => ?_)
    · rw [← zA_0, zA_lt h0 hx] at q
      rw [if_pos (by simpa using q)] at kk
      exact kk
    · rw [← zA_0, zA_lt h0 hx] at q
      rw [if_neg (by simpa using q)] at kk
      exact kk
  · refine lv_if_le (x := Int32.ofInt x) hex hb hd hj (fun q => ?_) (fun q => ?_)
    · rw [← zA_0, zA_le hx h0] at q
      rw [if_pos (by simpa using q)] at kk
      exact kk
    · rw [← zA_0, zA_le hx h0] at q
      rw [if_neg (by simpa using q)] at kk
      exact kk
/-- a branch on two ints -/
theorem zW_icmp (F : zFr p R s m args meth c D cA k) {cd : Jvm.ClassFile.Cond} {off : Int} {x y : Int} {st0 : List ZV} (hx : zrg x) (hy : zrg y) (hd : decode (zm k).2.2.1 pc = .ok (.if_icmp cd off, 3)) (ho : 0 ≤ (pc : Int) + off)
    (kk : zGo p l e R s m args below meth c Q b sc cells slots H locs lsA (if zcmp cd x y = true then zjmp pc off else pc + 3) st0) : zGo p l e R s m args below meth c Q b sc cells slots H locs lsA pc (zI y :: zI x :: st0) := by
  obtain ⟨hex, hb, -⟩ := F
  have hj := zjmp_of ho
  unfold zcmp at kk
  cases cd
  · refine lv_icmp_eq (x := Int32.ofInt x) (y := Int32.ofInt y) hex hb hd hj (fun q => ?_) (fun q => ?_)
    · rw [zA_eq hx hy] at q
      rw [if_pos (by simpa using q)] at kk
      exact kk
    · rw [zA_eq hx hy] at q
      rw [if_neg (by simpa using q)] at kk
      exact kk
  · refine lv_icmp_ne (x := Int32.ofInt x) (y := Int32.ofInt y) hex hb hd hj (fun q => ?_) (fun q => ?_)
    · rw [zA_eq hx hy] at q
      rw [if_pos (by simpa using q)] at kk
      exact kk
    · rw [zA_eq hx hy] at q
      rw [if_neg (by simpa using q)] at kk
      exact kk
  · refine lv_icmp_lt (x := Int32.ofInt x) (y := Int32.ofInt y) hex hb hd hj (fun q => ?_) (fun q => ?_)
    · rw [zA_lt hx hy] at q
      rw [if_pos (by simpa using q)] at kk
      exact kk
    · rw [zA_lt hx hy] at q
      rw [if_neg (by simpa using q)] at kk
      exact kk
  · refine lv_icmp_ge (x := Int32.ofInt x) (y := Int32.ofInt y) hex hb hd hj (fun q => ?_) (fun q => ?_)
    · rw [zA_le hy hx] at q
      rw [if_pos (by simpa using q)] at kk
      exact kk
    · rw [zA_le hy hx] at q
      rw [if_neg (by simpa using q)] at kk
      exact kk
  · refine lv_icmp_gt (x := Int32.ofInt x) (y := Int32.ofInt y) hex hb hd hj (fun q => ?_) (fun q => ?_)
    · rw [zA_lt hy hx] at q
      rw [if_pos (by simpa using q)] at kk
      exact kk
    · rw [zA_lt hy hx] at q
      rw [if_neg (by simpa using q)] at kk
      exact kk
  · refine lv_icmp_le (x := Int32.ofInt x) (y := Int32.ofInt y) hex hb hd hj (fun q => ?_) (fun q => ?_)
    · rw [zA_le hx hy] at q
      rw [if_pos (by simpa using q)] at kk
      exact kk
    · rw [zA_le hx hy] at q
      rw [if_neg (by simpa using q)] at kk
      exact kk
end
end
section
/-! a step of the numbers' machine is a step of the machine -/
theorem zMl_at {o x : Nat} {q : Nat × Nat} (h : zMl.lookup (zky o x) = some q) : ∃ ps, zMchk (zky o x, q) ps = true := zMl_chk (zlook_mem h)
theorem zcats (b sc : Nat) (st : List ZV) : ((st.map (zcv b sc)).map fun v => v.category).sum = (st.map zct).sum := by
  rw [List.map_map]
  congr 1
  apply List.map_congr_left
  intro v _
  exact zct_cat b sc v
theorem zc1_cat {b sc : Nat} {v : ZV} (h : zc1 v = true) : (zcv b sc v).category = 1 := by
  rcases v with x | x | x | x | x <;> first | rfl | cases h
set_option maxHeartbeats 8000000 in
theorem zex_W {p : Program} {l : Launch} {e : Env} {R : Room} {s : State} {m : MethodId} {args : Array Value} {below : List Frame} {meth : Method} {c : Code} {Q : State → Prop} {b sc : Nat} {D : va_G} {cA : Nat → ClassId} {k cells slots : Nat} {H : Heap} {locs : List Loc} {lsA : Array Slot} {pc n : Nat} {i : Instr} {ls st : List ZV} {h : ZH} {r : Nat × List ZV × List ZV × ZH}
    (hk : k < 256) (hf : zft k pc = some (n, i)) (F : zFr p R s m args meth c D cA k) (hrel : zRel b sc D cA s k ls h H locs lsA) (hl : zoks ls) (hs : zoks st) (hi : zinv h) (eq : zex (zown k) i pc n ls st h = some r)
    (hR : cells + r.2.2.2.1.length ≤ R.cells + h.1.length ∧ slots + ztot r.2.2.2.1 ≤ R.slots + ztot h.1) (hR0 : cells ≤ R.cells ∧ slots ≤ R.slots) (kk : zKK p l e R s m args below meth c Q b sc D cA k cells slots h r) : zGo p l e R s m args below meth c Q b sc cells slots H locs lsA pc st := by
  have hd := zd_at hk hf
  have hst := zft_stat hf
  obtain ⟨hoff, hidx⟩ := zft_st2 hf
  have F2 := F
  obtain ⟨hex, hb, hml, hown, hts, hK, hnm, hfr, hlo⟩ := F
  have hsz : c.maxLocals = lsA.size := by rw [hml, hrel.1.1]
  have hlen := hrel.2.1
  have kS : ∀ {pc' : Nat} {st' : List ZV}, r = (pc', ls, st', h) → zGo p l e R s m args below meth c Q b sc cells slots H locs lsA pc' st' := by
    intro pc' st' q
    subst q
    exact kk H locs lsA cells slots hrel rfl rfl
  cases i
  case iconst v =>
    cases eq
    simp only [zstat, Bool.and_eq_true, decide_eq_true_eq, beq_iff_eq] at hst
    obtain ⟨-, rfl⟩ := hst
    exact lv_iconst hex hb hd rfl (kS rfl)
  case bipush v =>
    cases eq
    simp only [zstat, Bool.and_eq_true, decide_eq_true_eq, beq_iff_eq] at hst
    obtain ⟨hv, rfl⟩ := hst
    refine lv_bipush hex hb hd (v := Int32.ofInt v) ?_ (kS rfl)
    apply Int32.toInt_inj.mp
    rw [Int8.toInt_toInt32, zt (by unfold zrg; omega), Int8.toInt_ofInt, Int.bmod_def]
    simp only [Int8.size] at *
    omega
  case sipush v =>
    cases eq
    simp only [zstat, Bool.and_eq_true, decide_eq_true_eq, beq_iff_eq] at hst
    obtain ⟨hv, rfl⟩ := hst
    refine lv_sipush hex hb hd (v := Int32.ofInt v) ?_ (kS rfl)
    apply Int32.toInt_inj.mp
    rw [Int16.toInt_toInt32, zt (by unfold zrg; omega), Int16.toInt_ofInt, Int.bmod_def]
    simp only [Int16.size] at *
    omega
  case ldc x =>
    obtain ⟨v, h1, rfl⟩ := Option.map_eq_some_iff.mp eq
    simp only [zstat, beq_iff_eq] at hst
    subst hst
    have hw := List.all_eq_true.mp zKi_ok _ (zlook_mem h1)
    simp only [zky_div (show x < 4096 from hidx), zky_mod (show x < 4096 from hidx)] at hw
    exact lv_ldc hex hb hown (hts _ (zwk_of hw)) hd (kS rfl)
  case ldc_w x =>
    obtain ⟨v, h1, rfl⟩ := Option.map_eq_some_iff.mp eq
    simp only [zstat, beq_iff_eq] at hst
    subst hst
    have hw := List.all_eq_true.mp zKi_ok _ (zlook_mem h1)
    simp only [zky_div (show x < 4096 from hidx), zky_mod (show x < 4096 from hidx)] at hw
    exact lv_ldcw hex hb hown (hts _ (zwk_of hw)) hd (kS rfl)
  case lconst v =>
    cases eq
    simp only [zstat, beq_iff_eq] at hst
    subst hst
    exact lv_lconst hex hb hd rfl (kS rfl)
  case ldc2_w x =>
    simp only [zstat, beq_iff_eq] at hst
    subst hst
    unfold zex at eq
    dsimp only at eq
    split at eq
    · next v h1 =>
      cases eq
      have hw := List.all_eq_true.mp zKl_ok _ (zlook_mem h1)
      simp only [zky_div (show x < 4096 from hidx), zky_mod (show x < 4096 from hidx)] at hw
      exact lv_ldc2 hex hb hown (hts _ (zwk_of hw)) hd (kS rfl)
    · obtain ⟨v, h1, rfl⟩ := Option.map_eq_some_iff.mp eq
      have hw := List.all_eq_true.mp zKd_ok _ (zlook_mem h1)
      simp only [zky_div (show x < 4096 from hidx), zky_mod (show x < 4096 from hidx)] at hw
      exact lv_ldc2d hex hb hown (hts _ (zwk_of hw)) hd (kS rfl)
  case dconst d =>
    simp only [zstat, beq_iff_eq] at hst
    subst hst
    unfold zex at eq
    dsimp only at eq
    split at eq
    · next hh =>
      cases eq
      subst hh
      exact lv_dconst1 hex hb hd (kS rfl)
    · cases eq
  case iload j =>
    simp only [zstat, beq_iff_eq] at hst
    subst hst
    obtain ⟨v, h1, rfl⟩ := Option.map_eq_some_iff.mp eq
    obtain ⟨x, rfl, h2⟩ := zgi_some h1
    exact lv_iload hex hb hd (zlv_get hrel.1 h2 rfl) (kS rfl)
  case iload_n j =>
    simp only [zstat, beq_iff_eq] at hst
    subst hst
    obtain ⟨v, h1, rfl⟩ := Option.map_eq_some_iff.mp eq
    obtain ⟨x, rfl, h2⟩ := zgi_some h1
    exact lv_iload_n hex hb hd rfl (zlv_get hrel.1 h2 rfl) (kS rfl)
  case aload j =>
    simp only [zstat, beq_iff_eq] at hst
    subst hst
    obtain ⟨v, h1, rfl⟩ := Option.map_eq_some_iff.mp eq
    obtain ⟨x, rfl, h2⟩ := zga_some h1
    exact lv_aload hex hb hd (zlv_get hrel.1 h2 rfl) (kS rfl)
  case aload_n j =>
    simp only [zstat, beq_iff_eq] at hst
    subst hst
    obtain ⟨v, h1, rfl⟩ := Option.map_eq_some_iff.mp eq
    obtain ⟨x, rfl, h2⟩ := zga_some h1
    exact lv_aload_n hex hb hd rfl (zlv_get hrel.1 h2 rfl) (kS rfl)
  case lload j =>
    simp only [zstat, beq_iff_eq] at hst
    subst hst
    obtain ⟨v, h1, rfl⟩ := Option.map_eq_some_iff.mp eq
    obtain ⟨x, rfl, h2⟩ := zgl_some h1
    exact lv_lload hex hb hd (zlv_get hrel.1 h2 rfl) (kS rfl)
  case dload_n j =>
    simp only [zstat, beq_iff_eq] at hst
    subst hst
    obtain ⟨v, h1, rfl⟩ := Option.map_eq_some_iff.mp eq
    obtain ⟨x, rfl, h2⟩ := zgd_some h1
    exact lv_dload_n hex hb hd rfl (zlv_get hrel.1 h2 rfl) (kS rfl)
  case istore j =>
    simp only [zstat, beq_iff_eq] at hst
    subst hst
    obtain ⟨x, st0, l', rfl, h1, rfl⟩ := zsi_some eq
    refine lv_istore (x := Int32.ofInt x) hex hb hd hrel.1 (by have := (zs1_lt h1).1; omega) rfl (fun ls' h' => ?_)
    exact kk H locs ls' cells slots (zsame hrel (zlv_st1 rfl h1 rfl h') (zs1_lt h1).2) rfl rfl
  case istore_n j =>
    simp only [zstat, beq_iff_eq] at hst
    subst hst
    obtain ⟨x, st0, l', rfl, h1, rfl⟩ := zsi_some eq
    refine lv_istore_n (x := Int32.ofInt x) hex hb hd rfl hrel.1 (by have := (zs1_lt h1).1; omega) rfl (fun ls' h' => ?_)
    exact kk H locs ls' cells slots (zsame hrel (zlv_st1 rfl h1 rfl h') (zs1_lt h1).2) rfl rfl
  case astore_n j =>
    simp only [zstat, beq_iff_eq] at hst
    subst hst
    obtain ⟨x, st0, l', rfl, h1, rfl⟩ := zsa_some eq
    refine lv_astore_n (x := zad b sc x) hex hb hd rfl hrel.1 (by have := (zs1_lt h1).1; omega) rfl (fun ls' h' => ?_)
    exact kk H locs ls' cells slots (zsame hrel (zlv_st1 rfl h1 rfl h') (zs1_lt h1).2) rfl rfl
  case lstore j =>
    simp only [zstat, beq_iff_eq] at hst
    subst hst
    obtain ⟨x, st0, l', rfl, h1, rfl⟩ := zsl_some eq
    refine lv_lstore (x := x) hex hb hd hrel.1 (by have := (zs2_lt h1).1; omega) rfl (fun ls' h' => ?_)
    exact kk H locs ls' cells slots (zsame hrel (zlv_st2 rfl h1 rfl h') (zs2_lt h1).2) rfl rfl
  case dstore_n j =>
    simp only [zstat, beq_iff_eq] at hst
    subst hst
    obtain ⟨x, st0, l', rfl, h1, rfl⟩ := zsd_some eq
    refine lv_dstore_n (x := x) hex hb hd rfl hrel.1 (by have := (zs2_lt h1).1; omega) rfl (fun ls' h' => ?_)
    exact kk H locs ls' cells slots (zsame hrel (zlv_st2 rfl h1 rfl h') (zs2_lt h1).2) rfl rfl
  case iinc j v =>
    simp only [zstat, Bool.and_eq_true, decide_eq_true_eq, beq_iff_eq] at hst
    obtain ⟨hv, rfl⟩ := hst
    unfold zex at eq
    dsimp only at eq
    split at eq
    · next x hx =>
      obtain ⟨l', h1, rfl⟩ := Option.map_eq_some_iff.mp eq
      obtain ⟨q, hq⟩ := List.getElem?_of_mem ((zlv_mem (b := b) (sc := sc) ls 0 (j, .int (Int32.ofInt x))).mpr ⟨j, zI x, hx, rfl, by simp [zcv]⟩)
      refine lv_iinc (x := Int32.ofInt x) (v := Int32.ofInt (zw (x + v))) hex hb hd hrel.1 hq (zA_add x v) (by have := (zs1_lt h1).1; omega) rfl (fun ls' h' => ?_)
      exact kk H locs ls' cells slots (zsame hrel (zlv_st1 (v := zI (zw (x + v))) rfl h1 rfl h') (zs1_lt h1).2) rfl rfl
    · cases eq
  case getfield x =>
    simp only [zstat, beq_iff_eq] at hst
    subst hst
    obtain ⟨⟨ci, kf⟩, h1, h2⟩ := Option.bind_eq_some_iff.mp eq
    exact zW_get F2 hrel hi h1 hidx hd h2 kk
  case putfield x =>
    simp only [zstat, beq_iff_eq] at hst
    subst hst
    obtain ⟨⟨ci, kf⟩, h1, h2⟩ := Option.bind_eq_some_iff.mp eq
    exact zW_put F2 hrel hi h1 hidx (zpf_at hk hf h1) hd h2 kk
  case iaload =>
    simp only [zstat, beq_iff_eq] at hst
    subst hst
    unfold zex at eq
    dsimp only at eq
    split at eq
    · next hh =>
      cases eq
      exact zW_ald (i := .iaload) (kd := 20) (t0 := 0) (ty := .int) F2 hrel hi (by decide) rfl (fun q0 ha hin hkk => va_iald hex hb hK.1 hrel.2.2.1.2 q0 0 ha rfl hin hd hkk) hh kk
    · exact zW_sld F2 hrel hi hd eq kk
  case caload =>
    simp only [zstat, beq_iff_eq] at hst
    subst hst
    exact zW_ald (i := .caload) (kd := 21) (t0 := 1) (ty := .char) F2 hrel hi (by decide) rfl (fun q0 ha hin hkk => va_cald hex hb hK.1 hrel.2.2.1.2 q0 1 ha rfl hin hd hkk) eq kk
  case baload =>
    simp only [zstat, beq_iff_eq] at hst
    subst hst
    exact zW_ald (i := .baload) (kd := 22) (t0 := 2) (ty := .boolean) F2 hrel hi (by decide) rfl (fun q0 ha hin hkk => va_zald hex hb hK.1 hrel.2.2.1.2 q0 2 ha rfl hin hd hkk) eq kk
  case aaload =>
    simp only [zstat, beq_iff_eq] at hst
    subst hst
    exact zW_aal F2 hrel hi hd eq kk
  case iastore =>
    simp only [zstat, beq_iff_eq] at hst
    subst hst
    exact zW_ast (kd := 20) (t0 := 0) (ty := .int) F2 hrel hi hs (by decide) rfl (fun x _ _ => rfl) (fun h1 h2 h3 h4 h5 => W.iast hex hb h1 h2 h3 h4 rfl rfl hd h5) eq kk
  case castore =>
    simp only [zstat, beq_iff_eq] at hst
    subst hst
    refine zW_ast (kd := 21) (t0 := 1) (ty := .char) F2 hrel hi hs (by decide) rfl (fun x hx ho => ?_) (fun h1 h2 h3 h4 h5 => W.cast hex hb h1 h2 h3 h4 rfl rfl hd h5) eq kk
    simp only [decide_eq_true_eq] at ho
    have h5 := (pk_charN (q := x.toNat) (by omega)).1
    unfold nI at h5
    rw [show Int32.ofInt x = Int32.ofNat x.toNat by
      rw [← Int32.ofInt_eq_ofNat]; congr 1; omega]
    exact h5
  case bastore =>
    simp only [zstat, beq_iff_eq] at hst
    subst hst
    refine zW_ast (kd := 22) (t0 := 2) (ty := .boolean) F2 hrel hi hs (by decide) rfl (fun x hx ho => ?_) (fun h1 h2 h3 h4 h5 => W.zast hex hb h1 h2 h3 h4 rfl rfl hd h5) eq kk
    simp only [decide_eq_true_eq] at ho
    rcases ho with rfl | rfl <;> rfl
  case aastore =>
    simp only [zstat, beq_iff_eq] at hst
    subst hst
    exact zW_aas F2 hrel hi hd eq kk
  case arraylength =>
    simp only [zstat, beq_iff_eq] at hst
    subst hst
    exact zW_alen F2 hrel hi hd eq kk
  case dup =>
    simp only [zstat, beq_iff_eq] at hst
    subst hst
    unfold zex at eq
    dsimp only at eq
    split at eq
    · split at eq
      · next hh => cases eq; exact lv_dup hex hb hd (zc1_cat hh) (kS rfl)
      · cases eq
    · cases eq
  case dup2 =>
    simp only [zstat, beq_iff_eq] at hst
    subst hst
    unfold zex at eq
    dsimp only at eq
    split at eq
    · split at eq
      · next hh => cases eq; exact lv_dup2_11 hex hb hd (zc1_cat hh.1) (zc1_cat hh.2) (kS rfl)
      · cases eq
    · cases eq
  case pop =>
    simp only [zstat, beq_iff_eq] at hst
    subst hst
    unfold zex at eq
    dsimp only at eq
    split at eq
    · split at eq
      · next hh => cases eq; exact lv_pop hex hb hd (zc1_cat hh) (kS rfl)
      · cases eq
    · cases eq
  case iadd =>
    simp only [zstat, beq_iff_eq] at hst
    subst hst
    obtain ⟨x, y, v, st0, rfl, h1, rfl⟩ := zbi_some eq
    cases h1
    refine lv_iadd (x := Int32.ofInt x) (y := Int32.ofInt y) hex hb hd ?_
    rw [zA_add]
    exact kS rfl
  case isub =>
    simp only [zstat, beq_iff_eq] at hst
    subst hst
    obtain ⟨x, y, v, st0, rfl, h1, rfl⟩ := zbi_some eq
    cases h1
    refine lv_isub (x := Int32.ofInt x) (y := Int32.ofInt y) hex hb hd ?_
    rw [zA_sub]
    exact kS rfl
  case imul =>
    simp only [zstat, beq_iff_eq] at hst
    subst hst
    obtain ⟨x, y, v, st0, rfl, h1, rfl⟩ := zbi_some eq
    cases h1
    refine lv_imul (x := Int32.ofInt x) (y := Int32.ofInt y) hex hb hd ?_
    rw [zA_mul]
    exact kS rfl
  case idiv =>
    simp only [zstat, beq_iff_eq] at hst
    subst hst
    obtain ⟨x, y, v, st0, rfl, h1, rfl⟩ := zbi_some eq
    split at h1
    · cases h1
    · next hy =>
      cases h1
      have q1 := (zoks_c hs).1
      have q2 := (zoks_c (zoks_c hs).2).1
      refine lv_idiv (x := Int32.ofInt x) (y := Int32.ofInt y) hex hb hd (by rw [← zA_0, zA_eq q1 zrg_0]; exact hy) ?_
      rw [zA_div q2 q1]
      exact kS rfl
  case irem =>
    simp only [zstat, beq_iff_eq] at hst
    subst hst
    obtain ⟨x, y, v, st0, rfl, h1, rfl⟩ := zbi_some eq
    split at h1
    · cases h1
    · next hy =>
      cases h1
      have q1 := (zoks_c hs).1
      have q2 := (zoks_c (zoks_c hs).2).1
      refine lv_irem (x := Int32.ofInt x) (y := Int32.ofInt y) hex hb hd (by rw [← zA_0, zA_eq q1 zrg_0]; exact hy) ?_
      rw [zA_rem q2 q1]
      exact kS rfl
  case iand =>
    simp only [zstat, beq_iff_eq] at hst
    subst hst
    obtain ⟨x, y, v, st0, rfl, h1, rfl⟩ := zbi_some eq
    cases h1
    refine lv_iand (x := Int32.ofInt x) (y := Int32.ofInt y) hex hb hd ?_
    rw [← zA_i (Int32.ofInt x &&& Int32.ofInt y)]
    exact kS rfl
  case ior =>
    simp only [zstat, beq_iff_eq] at hst
    subst hst
    obtain ⟨x, y, v, st0, rfl, h1, rfl⟩ := zbi_some eq
    cases h1
    refine lv_ior (x := Int32.ofInt x) (y := Int32.ofInt y) hex hb hd ?_
    rw [← zA_i (Int32.ofInt x ||| Int32.ofInt y)]
    exact kS rfl
  case ixor =>
    simp only [zstat, beq_iff_eq] at hst
    subst hst
    obtain ⟨x, y, v, st0, rfl, h1, rfl⟩ := zbi_some eq
    cases h1
    refine lv_ixor (x := Int32.ofInt x) (y := Int32.ofInt y) hex hb hd ?_
    rw [← zA_i (Int32.ofInt x ^^^ Int32.ofInt y)]
    exact kS rfl
  case ishl =>
    simp only [zstat, beq_iff_eq] at hst
    subst hst
    obtain ⟨x, y, v, st0, rfl, h1, rfl⟩ := zbi_some eq
    cases h1
    refine lv_ishl (x := Int32.ofInt x) (y := Int32.ofInt y) hex hb hd ?_
    rw [← zA_i (Int32.ofInt x <<< (Int32.ofInt y &&& 31))]
    exact kS rfl
  case ishr =>
    simp only [zstat, beq_iff_eq] at hst
    subst hst
    obtain ⟨x, y, v, st0, rfl, h1, rfl⟩ := zbi_some eq
    cases h1
    refine lv_ishr (x := Int32.ofInt x) (y := Int32.ofInt y) hex hb hd ?_
    rw [← zA_i (Int32.ofInt x >>> (Int32.ofInt y &&& 31))]
    exact kS rfl
  case iushr =>
    simp only [zstat, beq_iff_eq] at hst
    subst hst
    obtain ⟨x, y, v, st0, rfl, h1, rfl⟩ := zbi_some eq
    cases h1
    refine lv_iushr (x := Int32.ofInt x) (y := Int32.ofInt y) hex hb hd rfl ?_
    rw [← zA_i (((Int32.ofInt x).toUInt32 >>> ((Int32.ofInt y).toUInt32 &&& Int32.toUInt32 31)).toInt32)]
    exact kS rfl
  case ineg =>
    simp only [zstat, beq_iff_eq] at hst
    subst hst
    unfold zex at eq
    dsimp only at eq
    split at eq
    · next x st0 =>
      cases eq
      refine lv_ineg (x := Int32.ofInt x) hex hb hd ?_
      rw [zA_neg]
      exact kS rfl
    · cases eq
  case i2c =>
    simp only [zstat, beq_iff_eq] at hst
    subst hst
    unfold zex at eq
    dsimp only at eq
    split at eq
    · next x st0 =>
      split at eq
      · next hh =>
        cases eq
        refine lv_i2c (x := Int32.ofInt x) (v := Int32.ofInt x) hex hb hd ?_ (kS rfl)
        rw [pk_char]
        have e1 : Int32.ofInt x = nI x.toNat := by
          unfold nI
          rw [← Int32.ofInt_eq_ofNat]; congr 1; omega
        rw [e1, pk_tn (by omega), Nat.mod_eq_of_lt (by omega)]
      · cases eq
    · cases eq
  case i2d =>
    simp only [zstat, beq_iff_eq] at hst
    subst hst
    unfold zex at eq
    dsimp only at eq
    split at eq
    · next x st0 =>
      cases eq
      exact lv_i2d (x := Int32.ofInt x) hex hb hd (kS rfl)
    · cases eq
  case d2l =>
    simp only [zstat, beq_iff_eq] at hst
    subst hst
    unfold zex at eq
    dsimp only at eq
    split at eq
    · next x st0 =>
      cases eq
      exact lv_d2l (x := x) hex hb hd (kS rfl)
    · cases eq
  case ladd =>
    simp only [zstat, beq_iff_eq] at hst
    subst hst
    obtain ⟨x, y, st0, rfl, rfl⟩ := zbl_some eq
    exact lv_ladd (x := x) (y := y) hex hb hd (kS rfl)
  case lor =>
    simp only [zstat, beq_iff_eq] at hst
    subst hst
    obtain ⟨x, y, st0, rfl, rfl⟩ := zbl_some eq
    exact lv_lor (x := x) (y := y) hex hb hd (kS rfl)
  case lcmp =>
    simp only [zstat, beq_iff_eq] at hst
    subst hst
    obtain ⟨x, y, st0, rfl, rfl⟩ := zbl_some eq
    refine W.lcmp (x := x) (y := y) hex hb hd ?_
    rw [← zA_i (lg_cmp x y)]
    exact kS rfl
  case lshl =>
    simp only [zstat, beq_iff_eq] at hst
    subst hst
    unfold zex at eq
    dsimp only at eq
    split at eq
    · next y x st0 =>
      cases eq
      exact lv_lshl (x := x) (y := Int32.ofInt y) hex hb hd rfl (kS rfl)
    · cases eq
  case dsub =>
    simp only [zstat, beq_iff_eq] at hst
    subst hst
    obtain ⟨x, y, v, st0, rfl, h1, rfl⟩ := zbd_some eq
    obtain ⟨h2, rfl⟩ := znan_some h1
    exact lv_dsub (x := x) (y := y) hex hb hd h2 (kS rfl)
  case dmul =>
    simp only [zstat, beq_iff_eq] at hst
    subst hst
    obtain ⟨x, y, v, st0, rfl, h1, rfl⟩ := zbd_some eq
    obtain ⟨h2, rfl⟩ := znan_some h1
    exact lv_dmul (x := x) (y := y) hex hb hd h2 (kS rfl)
  case ddiv =>
    simp only [zstat, beq_iff_eq] at hst
    subst hst
    obtain ⟨x, y, v, st0, rfl, h1, rfl⟩ := zbd_some eq
    obtain ⟨h2, rfl⟩ := znan_some h1
    exact lv_ddiv (x := x) (y := y) hex hb hd h2 (kS rfl)
  case dcmp cd =>
    simp only [zstat, beq_iff_eq] at hst
    subst hst
    obtain ⟨x, y, v, st0, rfl, h1, rfl⟩ := zbd_some eq
    cases h1
    refine lv_dcmp (x := x) (y := y) hex hb hd ?_
    rw [← zA_i (Op.cmpValue (FP.dcmp x y) cd)]
    exact kS rfl
  case ifCond cd off =>
    simp only [zstat, beq_iff_eq] at hst
    subst hst
    unfold zex at eq
    dsimp only at eq
    split at eq
    · next x st0 =>
      cases eq
      exact zW_if F2 (zoks_c hs).1 hd (hoff _ (by simp [zoff])) (kS rfl)
    · cases eq
  case if_icmp cd off =>
    simp only [zstat, beq_iff_eq] at hst
    subst hst
    unfold zex at eq
    dsimp only at eq
    split at eq
    · next y x st0 =>
      cases eq
      exact zW_icmp F2 (zoks_c (zoks_c hs).2).1 (zoks_c hs).1 hd (hoff _ (by simp [zoff])) (kS rfl)
    · cases eq
  case goto off =>
    simp only [zstat, beq_iff_eq] at hst
    subst hst
    cases eq
    exact lv_goto hex hb hd (zjmp_of (hoff _ (by simp [zoff]))) (kS rfl)
  case tableswitch d lo hi' offs =>
    unfold zex at eq
    dsimp only at eq
    split at eq
    · next x st0 =>
      have hx := (zoks_c hs).1
      split at eq
      · next hh =>
        cases eq
        exact lv_tableOut (x := Int32.ofInt x) hex hb hd (by rw [zt hx]; exact hh) (zjmp_of (hoff _ (by simp [zoff]))) (kS rfl)
      · next hh =>
        obtain ⟨f, h1, rfl⟩ := Option.map_eq_some_iff.mp eq
        exact lv_tableIn (x := Int32.ofInt x) hex hb hd (by rw [zt hx]; omega) (by rw [zt hx]; omega) (by rw [zt hx]; exact h1) (zjmp_of (hoff _ (List.mem_cons_of_mem _ (Array.mem_toList_iff.mpr (Array.mem_of_getElem? h1))))) (kS rfl)
    · cases eq
  case lookupswitch d ps =>
    unfold zex at eq
    dsimp only at eq
    split at eq
    · next x st0 =>
      have hx := (zoks_c hs).1
      cases eq
      refine lv_lookup (x := Int32.ofInt x) hex hb hd ?_ (by rw [zt hx]) (zjmp_of (hoff _ zoff_mem)) (kS rfl)
      simpa [zstat] using hst
    · cases eq
  case new x =>
    simp only [zstat, beq_iff_eq] at hst
    subst hst
    obtain ⟨ci, h1, h2⟩ := Option.bind_eq_some_iff.mp eq
    exact zW_new F2 hrel hi h1 hidx hd h2 hR kk
  case newarray t =>
    simp only [zstat, Bool.and_eq_true, decide_eq_true_eq, beq_iff_eq] at hst
    obtain ⟨rfl, ht⟩ := hst
    exact zW_nwa F2 hrel hi ht hd eq hR kk
  case anewarray x =>
    simp only [zstat, beq_iff_eq] at hst
    subst hst
    unfold zex at eq
    dsimp only at eq
    split at eq
    · next hh => exact zW_anew F2 hrel hi hidx hh hd eq hR kk
    · cases eq
  case multianewarray x d =>
    simp only [zstat, beq_iff_eq] at hst
    subst hst
    unfold zex at eq
    dsimp only at eq
    split at eq
    · next hh =>
      obtain ⟨hh, rfl⟩ := hh
      exact zW_mna F2 hrel hi hidx hh hd eq hR kk
    · cases eq
  case invokespecial x =>
    simp only [zstat, beq_iff_eq] at hst
    subst hst
    unfold zex at eq
    dsimp only at eq
    split at eq
    · next hh =>
      obtain ⟨hh, hcat⟩ := hh
      split at eq
      · next a st0 =>
        cases eq
        obtain ⟨ps, hp⟩ := zMl_at hh
        simp only [zMchk, zky_div (show x < 4096 from hidx), zky_mod (show x < 4096 from hidx), Bool.and_eq_true] at hp
        have ho := zObj_ok
        simp only [Bool.and_eq_true] at ho
        refine W.objInit (rest := st0.map (zcv b sc)) hex hb hown (hts _ (zpos_in hp.2)) (hts _ (zwk_of (by decide +kernel))) (hts _ (zwk_of (by decide +kernel))) rfl (by rw [hml, hrel.1.1]) rfl hd hfr ?_ (kS rfl)
        rw [zcats]
        rw [List.map_cons, List.sum_cons] at hcat
        show 2 * 0 + _ + 12 ≤ _
        omega
      · cases eq
    · cases eq
  case invokestatic x =>
    simp only [zstat, beq_iff_eq] at hst
    subst hst
    obtain ⟨⟨k', kd⟩, h1, h2⟩ := Option.bind_eq_some_iff.mp eq
    split at h2
    · next hcat =>
      obtain ⟨ps, hp⟩ := zMl_at h1
      have h2 : znat kd (pc + 3) ls st h = some r := h2
      unfold znat at h2
      split at h2
      · split at h2
        · next v st0 =>
          cases h2
          simp only [zMchk, zky_div (show x < 4096 from hidx), zky_mod (show x < 4096 from hidx), Bool.and_eq_true] at hp
          refine vn_d2l hex hb hsz hown (hts _ (zpos_in hp.2)) (hts _ (zwk_of (w := .native zRaw) (by decide +kernel))) (hts _ (zwk_of (w := .static zRaw) (by decide +kernel))) (hts _ (zwk_of (by decide +kernel))) hfr ?_ hd (kS rfl)
          rw [zcats]
          rw [List.map_cons, List.sum_cons] at hcat
          omega
        · cases h2
      · split at h2
        · next v st0 _ =>
          cases h2
          simp only [zMchk, zky_div (show x < 4096 from hidx), zky_mod (show x < 4096 from hidx), Bool.and_eq_true] at hp
          refine va_mabs (x := Int32.ofInt v) hex hb hsz hown (hts _ (zpos_in hp.2)) (hts _ (zwk_of (by decide +kernel))) (hts _ (zwk_of (by decide +kernel))) (hts _ (zwk_of (by decide +kernel))) hfr ?_ hR0.1 hR0.2 hd ?_
          · rw [zcats]
            rw [List.map_cons, List.sum_cons] at hcat
            omega
          · have hv := (zoks_c hs).1
            have e1 : (if 0 ≤ Int32.ofInt v then Int32.ofInt v else 0 - Int32.ofInt v) = Int32.ofInt (if 0 ≤ v then v else zw (0 - v)) := by
              by_cases q : 0 ≤ v
              · rw [if_pos q, if_pos (by rw [← zA_0, zA_le zrg_0 hv]; exact q)]
              · rw [if_neg q, if_neg (by rw [← zA_0, zA_le zrg_0 hv]; exact q), ← zA_0, zA_sub]
            rw [e1]
            exact kS rfl
        · cases h2
      · split at h2
        · next y v st0 _ =>
          cases h2
          simp only [zMchk, zky_div (show x < 4096 from hidx), zky_mod (show x < 4096 from hidx), Bool.and_eq_true] at hp
          refine va_mmax (x := Int32.ofInt v) (y := Int32.ofInt y) hex hb hsz hown (hts _ (zpos_in hp.2)) (hts _ (zwk_of (by decide +kernel))) (hts _ (zwk_of (by decide +kernel))) (hts _ (zwk_of (by decide +kernel))) hfr ?_ hR0.1 hR0.2 hd ?_
          · rw [zcats]
            rw [List.map_cons, List.sum_cons, List.map_cons, List.sum_cons] at hcat
            omega
          · have hy := (zoks_c hs).1
            have hv := (zoks_c (zoks_c hs).2).1
            have e1 : (if Int32.ofInt v < Int32.ofInt y then Int32.ofInt y else Int32.ofInt v) = Int32.ofInt (if v < y then y else v) := by
              by_cases q : v < y
              · rw [if_pos q, if_pos (by rw [zA_lt hv hy]; exact q)]
              · rw [if_neg q, if_neg (by rw [zA_lt hv hy]; exact q)]
            rw [e1]
            exact kS rfl
        · cases h2
      · split at h2
        · next y v st0 _ =>
          cases h2
          simp only [zMchk, zky_div (show x < 4096 from hidx), zky_mod (show x < 4096 from hidx), Bool.and_eq_true] at hp
          refine va_mmin (x := Int32.ofInt v) (y := Int32.ofInt y) hex hb hsz hown (hts _ (zpos_in hp.2)) (hts _ (zwk_of (by decide +kernel))) (hts _ (zwk_of (by decide +kernel))) (hts _ (zwk_of (by decide +kernel))) hfr ?_ hR0.1 hR0.2 hd ?_
          · rw [zcats]
            rw [List.map_cons, List.sum_cons, List.map_cons, List.sum_cons] at hcat
            omega
          · have hy := (zoks_c hs).1
            have hv := (zoks_c (zoks_c hs).2).1
            have e1 : (if Int32.ofInt y < Int32.ofInt v then Int32.ofInt y else Int32.ofInt v) = Int32.ofInt (if y < v then y else v) := by
              by_cases q : y < v
              · rw [if_pos q, if_pos (by rw [zA_lt hy hv]; exact q)]
              · rw [if_neg q, if_neg (by rw [zA_lt hy hv]; exact q)]
            rw [e1]
            exact kS rfl
        · cases h2
      · cases h2
    · cases h2
  all_goals cases eq
end
section
/-! calls, and what a method's run comes to -/
theorem zAOA.moved {u U : State} (hvm : u.vm.Alike U.vm) (h : zAOA u) : zAOA U := by
  obtain ⟨comp, c, k, h1, h2, h3, h4, h5⟩ := arrayOverA_spec h
  obtain ⟨k', hk', he⟩ := hvm.2.2 _ _ h3
  have hi := (hvm.findIdx?_eq _ (fun _ => rfl)).trans h2
  have hkind : k'.kind = .array comp (.array .int) := by rw [he]; exact h4
  have f1 : U.vm.findClass (FieldType.array .int).toString = some comp := by rw [hvm.findClass]; exact h1
  have f2 : U.vm.findClass ("[" ++ (FieldType.array .int).toString) = some c := by rw [hvm.findClass]; exact h5
  unfold zAOA Cond.before Cond.holds
  simp only [Cond.value]
  rw [f1, Option.bind_some]
  refine (congrArg (fun o : Option Nat => (o.bind (fun c => (U.vm.classes[c]?).map fun (k : Class) => match k.kind with | .array _ ty => decide (ty = FieldType.array .int) && decide (U.vm.findClass ("[" ++ (FieldType.array .int).toString) = some c) | _ => false) == some true)) hi).trans ?_
  simp [hk', hkind, f2]
theorem zK.calling {D : va_G} {cA : Nat → ClassId} {U : State} (h : zK D cA U) (g : JFrame) (mk : MethodId) (a : Array Value) : zK D cA (U.calling g mk a) := by
  refine ⟨va_K.moved (u := U) (U := U.calling g mk a) (Vm.Alike.refl U.vm) h.1, fun w hw => ?_, va_AO.moved (u := U) (U := U.calling g mk a) (Vm.Alike.refl U.vm) h.2.2.1, zAOA.moved (u := U) (U := U.calling g mk a) (Vm.Alike.refl U.vm) h.2.2.2⟩
  have h1 := h.2.1 w hw
  have h2 := (List.mem_filter.mp hw).2
  revert h1
  cases w <;> first | exact fun h1 => va_Nw.same (u := U) (U := U.calling g mk a) rfl rfl h1 | cases h2
theorem zK.warm {D : va_G} {cA : Nat → ClassId} {s U : State} (h : zK D cA s) (hW : s.WarmedH U.vm) : zK D cA U := by
  refine ⟨va_K.moved hW.alike h.1, fun w hw => ?_, va_AO.moved hW.alike h.2.2.1, zAOA.moved hW.alike h.2.2.2⟩
  have h1 := h.2.1 w hw
  have h2 := (List.mem_filter.mp hw).2
  revert h1
  cases w <;> first | exact fun h1 => va_Nw.warmM hW h1 | cases h2
def zrm (d mc ms : Nat) : Room := { frames := d, cells := mc, slots := ms, locals := 60 * d }
def zPc (b sc : Nat) (D : va_G) (cA : Nat → ClassId) (as : List ZV) (h : ZH) : Array Value → State → Prop := fun v U => v = (as.map (zcv b sc)).toArray ∧ zK D cA U ∧ zHR b sc D cA h U.heap ∧ sc < b ∧ zX sc h U U.heap
def zQc (b sc : Nat) (D : va_G) (cA : Nat → ClassId) (v : Option ZV) (h1 : ZH) : Array Value → State → Outcome → State → Prop := fun _ st o t => o = .returned (v.map (zcv b sc)) ∧ zHR b sc D cA h1 t.heap ∧ ∀ q : Nat, q < b → t.heap[q]? = st.heap[q]?
def zSnd (l : Launch) (d : Nat) (cal : Nat → List ZV → ZH → ZO) : Prop := ∀ (b sc : Nat) (D : va_G) (cA : Nat → ClassId) (k : Nat) (as : List ZV) (h : ZH) (v : Option ZV) (h1 : ZH), k < 255 → Jvm.plainName (zm k).2.1.cls = true → zoks as → zinv h → cal k as h = some (v, h1) → Met l (zm k).2.1 (zwk k) (zrm d (h1.1.length - h.1.length) (ztot h1.1 - ztot h.1)) (zPc b sc D cA as h) (zQc b sc D cA v h1) (h1.1.length - h.1.length) (ztot h1.1 - ztot h.1) (fun q => b ≤ q)
theorem zX_calling {sc : Nat} {h : ZH} {U : State} {H : Heap} (hX : zX sc h U H) (g : JFrame) (mk : MethodId) (a : Array Value) : zX sc h (U.calling g mk a) H := by
  obtain ⟨L, xs, h1, h2⟩ := hX
  exact ⟨L, xs, h1.moved (u := U) (U := U.calling g mk a) (Vm.Alike.refl U.vm), h2⟩
theorem zPc_blind {b sc : Nat} {D : va_G} {cA : Nat → ClassId} {as : List ZV} {h : ZH} : FrameBlind (zPc b sc D cA as h) := fun a U g mk q => ⟨q.1, q.2.1.calling g mk a, q.2.2.1, q.2.2.2.1, zX_calling q.2.2.2.2 g mk a⟩
theorem zwk_good {k : Nat} (hk : k < 255) : GoodIn zWs (zwk k) := fun w hw => by
  rcases List.mem_cons.mp hw with rfl | hw
  · exact zWs_good _ (zcode_in hk)
  · exact zWs_good _ hw
theorem zmax_le : ∀ k, k < 256 → zmax k ≤ 12 := by decide +kernel
section
variable {p : Program} {l : Launch} {e : Env} {R : Room} {s : State} {m : MethodId} {args : Array Value} {below : List Frame} {meth : Method} {c : Code} {Q : State → Prop} {b sc : Nat} {D : va_G} {cA : Nat → ClassId} {k cells slots : Nat} {H : Heap} {locs : List Loc} {lsA : Array Slot} {pc : Nat} {ls st : List ZV} {h : ZH}
/-- behind a call -/
theorem zcall_go {g : JFrame} {rest : List ZV} {as : Array Value} {v : Option ZV} {h1 : ZH} {mc ms : Nat} (hrel : zRel b sc D cA s k ls h H locs lsA) (hle : ∀ j, h1.2 zSC j = h.2 zSC j)
    (hr : CallRun p l e R s m args below meth c H locs cells slots mc ms g (rest.map (zcv b sc)) (zQc b sc D cA v h1 as) (fun q => b ≤ q)) (hg : { g with pc := g.pc + 3, stack := (v.map (zcv b sc)).toList ++ rest.map (zcv b sc) } = F0 m (pc + 3) lsA ((v.toList ++ rest).map (zcv b sc)))
    (kk : ∀ (H' : Heap) (locs' : List Loc), zRel b sc D cA s k ls h1 H' locs' lsA → zGo p l e R s m args below meth c Q b sc (cells + mc) (slots + ms) H' locs' lsA (pc + 3) (v.toList ++ rest)) : W p l e R s m args below meth c H locs cells slots Q g := by
  obtain ⟨g1, g2, ⟨g3, g4⟩, g5, g6, g7, g8⟩ := hrel
  intro T hT X
  obtain ⟨v', st₀, t, T', L, e0, X', hL, e1, ⟨ev, hh, hq⟩, st⟩ := hr T hT X
  cases ev
  have hq : ∀ q : Nat, q < b → t.heap[q]? = H[q]? := fun q hq2 => by rw [hq q hq2, e0]
  obtain ⟨t2, a1, b1⟩ := kk t.heap (locs ++ L) ⟨g1, g2, hh, fun q hq2 => by rw [hq q hq2]; exact g5 q hq2, fun q hq2 => (List.mem_append.mp hq2).elim (g6 q) (hL q), g7, zX_kept g8 (hq sc g7) hle⟩ T' e1 X'
  refine ⟨t2, st t2 ?_, b1⟩
  rw [hg]
  exact a1
end
theorem zcv_opt (b sc : Nat) (v : Option ZV) (l : List ZV) : (v.map (zcv b sc)).toList ++ l.map (zcv b sc) = (v.toList ++ l).map (zcv b sc) := by cases v <;> rfl
theorem zsplit {b sc n : Nat} {st : List ZV} : st.map (zcv b sc) = (((st.take n).reverse).map (zcv b sc)).reverse ++ (st.drop n).map (zcv b sc) := by
  rw [← List.map_reverse, List.reverse_reverse, ← List.map_append, List.take_append_drop]
end
section
theorem zrev_len {st : List ZV} {n : Nat} (h : n ≤ st.length) : ((st.take n).reverse).length = n := by rw [List.length_reverse, List.length_take]; omega
theorem zcls_ok : ∀ k, k < 256 → (zm k).2.1.cls = zCnm (zown k) := by decide +kernel
section
variable {p : Program} {l : Launch} {e : Env} {R : Room} {s : State} {m : MethodId} {args : Array Value} {below : List Frame} {meth : Method} {c : Code} {Q : State → Prop} {b sc : Nat} {D : va_G} {cA : Nat → ClassId} {k cells slots : Nat} {H : Heap} {locs : List Loc} {lsA : Array Slot} {pc : Nat} {ls st : List ZV} {h : ZH}
theorem zMok_of {ps : List Nat} {k' : Nat} (h : zMok ps k' = true) : k' < 255 ∧ Cond.initialized (zm k').2.1.cls ∈ zWs ∧ (zm k').2.1.cls ≠ "java/lang/invoke/MethodHandle" ∧ (zm k').2.1.cls ≠ "java/lang/invoke/VarHandle" ∧ Jvm.plainName (zm k').2.1.cls = true ∧ (zm k').2.1.cls = zCnm (zown k') := by
  unfold zMok at h
  simp only [Bool.and_eq_true, decide_eq_true_eq] at h
  exact ⟨h.1.1.1.1.1, zpos_in h.1.1.1.1.2, h.1.1.1.2, h.1.1.2, h.1.2, h.2⟩
theorem zPc_at {as : List ZV} {av : Array Value} (F : zFr p R s m args meth c D cA k) (hrel : zRel b sc D cA s k ls h H locs lsA) (ha : av = (as.map (zcv b sc)).toArray) {U : State} (hU : U.heap = H) (hW : s.WarmedH U.vm) : zPc b sc D cA as h av U := by
  refine ⟨ha, F.2.2.2.2.2.1.warm hW, by rw [hU]; exact hrel.2.2.1, hrel.2.2.2.2.2.1, ?_⟩
  rw [hU]
  obtain ⟨L, xs, h1, h2⟩ := hrel.2.2.2.2.2.2
  exact ⟨L, xs, h1.moved hW.alike, h2⟩
/-- a call of any kind -/
theorem zW_call {d n : Nat} {cal : Nat → List ZV → ZH → ZO} (hS : zSnd l d cal) (hkp : zkeep cal) {i : Instr} {k' kd : Nat} {v : Option ZV} {h1 : ZH} (hk : k < 256) (hf : zft k pc = some (n, i)) (F : zFr p R s m args meth c D cA k) (hRf : d + 1 ≤ R.frames ∧ 60 * d + 60 ≤ R.locals) (hrel : zRel b sc D cA s k ls h H locs lsA) (hs : zoks st) (hi : zinv h)
    (hcal : zcal (zown k) i = some (k', kd)) (hlen : znA k' ≤ st.length) (hcat : ((st.drop (znA k')).map zct).sum ≤ 8) (hrcv : zrcv k' kd (st.take (znA k')).reverse h = true) (hev : cal k' (st.take (znA k')).reverse h = some (v, h1))
    (hR : cells + (h1.1.length - h.1.length) ≤ R.cells ∧ slots + (ztot h1.1 - ztot h.1) ≤ R.slots)
    (kk : ∀ (H' : Heap) (locs' : List Loc), zRel b sc D cA s k ls h1 H' locs' lsA → zGo p l e R s m args below meth c Q b sc (cells + (h1.1.length - h.1.length)) (slots + (ztot h1.1 - ztot h.1)) H' locs' lsA (pc + n) (v.toList ++ st.drop (znA k'))) : zGo p l e R s m args below meth c Q b sc cells slots H locs lsA pc st := by
  have hd := zd_at hk hf
  have hst := zft_stat hf
  obtain ⟨-, hidx⟩ := zft_st2 hf
  have F2 := F
  obtain ⟨hex, hb, hml, hown, hts, hK, hnm, hfr, hlo⟩ := F
  have hoas := zoks_take hs (znA k')
  obtain ⟨-, -, hle⟩ := hkp _ _ _ _ _ hoas hi hev
  have hal := zrev_len hlen
  have hrest : 2 * (F0 m pc lsA (st.map (zcv b sc))).monitorRoom + (((st.drop (znA k')).map (zcv b sc)).map fun v => v.category).sum ≤ 8 := by
    rw [zcats]
    show 2 * 0 + _ ≤ 8
    omega
  have hroom : ∀ {k' : Nat}, k' < 255 → (zrm d (h1.1.length - h.1.length) (ztot h1.1 - ztot h.1)).frames + 1 ≤ R.frames ∧ 8 + (zmax k' + 11) + (zrm d (h1.1.length - h.1.length) (ztot h1.1 - ztot h.1)).locals ≤ R.locals := fun {k'} hk' => by
    have := zmax_le k' (by omega)
    refine ⟨hRf.1, ?_⟩
    show 8 + (zmax k' + 11) + 60 * d ≤ R.locals
    omega
  have hfix : CallFix p m c (zm k).2.2.1 (zmax k) s args zWs (zCnm (zown k)) := ⟨hex, hb, hml, hown, hts⟩
  generalize has : (st.take (znA k')).reverse = as at *
  have hstk : st.map (zcv b sc) = (as.map (zcv b sc)).reverse ++ (st.drop (znA k')).map (zcv b sc) := by rw [← has]; exact zsplit
  have hout : ∀ {g : JFrame}, g = F0 m pc lsA (st.map (zcv b sc)) → { g with pc := g.pc + 3, stack := (v.map (zcv b sc)).toList ++ (st.drop (znA k')).map (zcv b sc) } = F0 m (pc + 3) lsA ((v.toList ++ st.drop (znA k')).map (zcv b sc)) := by
    intro g hg
    rw [hg, zcv_opt]
  unfold zcal at hcal
  split at hcal
  · next x =>
    simp only [zstat, beq_iff_eq] at hst
    subst hst
    obtain ⟨q, h2, h3⟩ := Option.bind_eq_some_iff.mp hcal
    split at h3
    · next hkd =>
      cases h3
      simp only at hkd
      subst hkd
      obtain ⟨ps, hp⟩ := zMl_at h2
      simp only [zMchk, zky_div (show x < 4096 from hidx), zky_mod (show x < 4096 from hidx), Bool.and_eq_true, decide_eq_true_eq] at hp
      obtain ⟨⟨⟨⟨p1, p2⟩, p3⟩, p4⟩, p5, p6, p7, p8⟩ := hp
      obtain ⟨o1, o2, o3, o4, o5, o6⟩ := zMok_of p1
      have hM := hS b sc D cA k' as h v h1 o1 o5 hoas hi hev
      unfold zrcv at hrcv
      simp only at hrcv
      split at hrcv
      · next a as0 =>
        have hka : zkn h.1 a = zown k' := by simpa using hrcv
        have ha : a < h.1.length := zkn_lt (by omega)
        have hca := hrel.2.2.1.2
        have hce := zws_at (b := b) (sc := sc) (cA := cA) ha
        rw [show zce b sc cA (h.1.getD a (99, 0, [])) (h.2 a) = .inr (zown k', (List.range (zFk.getD (zown k') []).length).map (zfv b sc (zown k') (h.1.getD a (99, 0, [])).2.2 (h.2 a))) by unfold zce; rw [show (h.1.getD a (99, 0, [])).1 = zown k' from hka, if_pos (by omega)]] at hce
        have hr := va_recv hK.1 hca (zCl_at p7) hce
        rw [List.map_cons, show zcv b sc (Sum.inr (Sum.inl a)) = .ref (b + a) from congrArg Value.ref (zad_of (b := b) (sc := sc) ha hi.2.2)] at hstk
        have hn0 : as0.length = znA k' - 1 := by
          rw [List.length_cons] at hal
          omega
        refine zcall_go hrel hle.2.2 (W.runV (C := zC (zown k')) (b := b + a) (As := as0.map (zcv b sc)) (n := znA k' - 1) hfix hM ⟨callB_of _ hts (zwk_good o1) rfl rfl rfl (hts _ o2) (hts _ (zpos_in p2)) ⟨o3, o4, p5⟩ (hroom o1), hts _ (zpos_in p3), by rw [← p8]; exact hts _ (zpos_in p4)⟩ ⟨zPc_blind, hr, fun U hU hW => zPc_at F2 hrel (by rw [List.map_cons, show zcv b sc (Sum.inr (Sum.inl a)) = .ref (b + a) from congrArg Value.ref (zad_of (b := b) (sc := sc) ha hi.2.2)]) hU hW⟩ rfl (by rw [List.length_map]; exact hn0) hrel.1.1 (by rw [List.reverse_cons, List.append_assoc] at hstk; exact hstk) hrest hd hR) (hout rfl) (fun H' locs' hrel' => kk H' locs' hrel')
      · cases hrcv
    · cases h3
  · next x =>
    simp only [zstat, beq_iff_eq] at hst
    subst hst
    obtain ⟨q, h2, h3⟩ := Option.bind_eq_some_iff.mp hcal
    split at h3
    · next hkd =>
      cases h3
      simp only at hkd
      obtain ⟨ps, hp⟩ := zMl_at h2
      rcases hkd with rfl | rfl
      · simp only [zMchk, zky_div (show x < 4096 from hidx), zky_mod (show x < 4096 from hidx), Bool.and_eq_true, decide_eq_true_eq] at hp
        obtain ⟨⟨⟨p1, p2⟩, p3⟩, p5⟩ := hp
        obtain ⟨o1, o2, o3, o4, o5, o6⟩ := zMok_of p1
        have hM := hS b sc D cA k' as h v h1 o1 o5 hoas hi hev
        refine zcall_go hrel hle.2.2 (W.runS (As := as.map (zcv b sc)) (n := znA k') hfix hM ⟨callB_of _ hts (zwk_good o1) rfl rfl rfl (hts _ o2) (hts _ (zpos_in p2)) ⟨o3, o4, p5⟩ (hroom o1), hts _ (zpos_in p3)⟩ ⟨zPc_blind, fun U hU hW => zPc_at F2 hrel rfl hU hW⟩ rfl (by rw [List.length_map]; exact hal) hrel.1.1 hstk hrest hd hR) (hout rfl) (fun H' locs' hrel' => kk H' locs' hrel')
      · simp only [zMchk, zky_div (show x < 4096 from hidx), zky_mod (show x < 4096 from hidx), Bool.and_eq_true, decide_eq_true_eq] at hp
        obtain ⟨⟨⟨p1, p2⟩, p3⟩, p5⟩ := hp
        obtain ⟨o1, o2, o3, o4, o5, o6⟩ := zMok_of p1
        have hM := hS b sc D cA k' as h v h1 o1 o5 hoas hi hev
        refine zcall_go hrel hle.2.2 (va_runSN (As := as.map (zcv b sc)) (n := znA k') hfix hM ⟨va_cnB _ hts (zwk_good o1) rfl rfl rfl (hK.2.1 _ (List.mem_filter.mpr ⟨List.mem_of_getElem? p2, rfl⟩)) (hts _ o2) ⟨o3, o4, p5⟩ (hroom o1), hts _ (zpos_in p3), trivial⟩ ⟨zPc_blind, fun U hU hW => zPc_at F2 hrel rfl hU hW⟩ rfl (by rw [List.length_map]; exact hal) hrel.1.1 hstk hrest hd hR).run (hout rfl) (fun H' locs' hrel' => kk H' locs' hrel')
    · cases h3
  · next x =>
    simp only [zstat, beq_iff_eq] at hst
    subst hst
    obtain ⟨q, h2, h3⟩ := Option.bind_eq_some_iff.mp hcal
    split at h3
    · next hkd =>
      cases h3
      simp only at hkd
      obtain ⟨ps, hp⟩ := zMl_at h2
      have hrc : ∃ a as0, as = zR a :: as0 ∧ a < h.1.length ∧ zkn h.1 a = zown k' := by
        unfold zrcv at hrcv
        rcases hkd with rfl | rfl
        all_goals
          simp only at hrcv
          split at hrcv
          · next a as0 =>
            have hka : zkn h.1 a = zown k' := by simpa using hrcv
            refine ⟨a, as0, rfl, zkn_lt ?_, hka⟩
            rw [hka]
            have : ∀ k, k < 256 → zown k < 99 := by decide +kernel
            by_cases hk2 : k' < 256
            · exact this k' hk2
            · exfalso
              have hq : ∀ q ∈ zMl, q.2.1 < 256 := by decide +kernel
              exact hk2 (hq _ (zlook_mem h2))
          · cases hrcv
      obtain ⟨a, as0, rfl, ha, hka⟩ := hrc
      rw [List.map_cons, show zcv b sc (zR a) = .ref (b + a) from congrArg Value.ref (zad_of (b := b) (sc := sc) ha hi.2.2)] at hstk
      have hn0 : as0.length = znA k' - 1 := by
        rw [List.length_cons] at hal
        omega
      rcases hkd with rfl | rfl
      · simp only [zMchk, zky_div (show x < 4096 from hidx), zky_mod (show x < 4096 from hidx), Bool.and_eq_true, decide_eq_true_eq] at hp
        obtain ⟨⟨⟨p1, p2⟩, p3⟩, p4, p5, p6, p7⟩ := hp
        obtain ⟨o1, o2, o3, o4, o5, o6⟩ := zMok_of p1
        have hM := hS b sc D cA k' _ h v h1 o1 o5 hoas hi hev
        refine zcall_go hrel hle.2.2 (W.runI (b := b + a) (As := as0.map (zcv b sc)) (n := znA k' - 1) hfix hM ⟨callB_of (ws' := zWs) _ hts (zwk_good o1) (by unfold zwk; rw [p7]) rfl rfl (hts _ o2) (hts _ (zpos_in p2)) ⟨o3, o4, p5⟩ (hroom o1), p4, hts _ (zpos_in p3)⟩ ⟨zPc_blind, fun U hU hW => zPc_at F2 hrel (by rw [List.map_cons, show zcv b sc (zR a) = .ref (b + a) from congrArg Value.ref (zad_of (b := b) (sc := sc) ha hi.2.2)]) hU hW⟩ rfl (by rw [List.length_map]; exact hn0) hrel.1.1 (by rw [List.reverse_cons, List.append_assoc] at hstk; exact hstk) hrest hd hR) (hout rfl) (fun H' locs' hrel' => kk H' locs' hrel')
      · simp only [zMchk, zky_div (show x < 4096 from hidx), zky_mod (show x < 4096 from hidx), Bool.and_eq_true, decide_eq_true_eq] at hp
        obtain ⟨⟨⟨p1, p2⟩, p3⟩, p4, p5, p6, p7⟩ := hp
        obtain ⟨o1, o2, o3, o4, o5, o6⟩ := zMok_of p1
        have hM := hS b sc D cA k' _ h v h1 o1 o5 hoas hi hev
        refine zcall_go hrel hle.2.2 (va_runIN (b := b + a) (As := as0.map (zcv b sc)) (n := znA k' - 1) hfix hM ⟨va_cnB (ws' := zWs) _ hts (zwk_good o1) (by unfold zwk; rw [p7]) rfl rfl (hK.2.1 _ (List.mem_filter.mpr ⟨List.mem_of_getElem? p2, rfl⟩)) (hts _ o2) ⟨o3, o4, p5⟩ (hroom o1), p4, hts _ (zpos_in p3)⟩ ⟨zPc_blind, fun U hU hW => zPc_at F2 hrel (by rw [List.map_cons, show zcv b sc (zR a) = .ref (b + a) from congrArg Value.ref (zad_of (b := b) (sc := sc) ha hi.2.2)]) hU hW⟩ rfl (by rw [List.length_map]; exact hn0) hrel.1.1 (by rw [List.reverse_cons, List.append_assoc] at hstk; exact hstk) hrest hd hR).run (hout rfl) (fun H' locs' hrel' => kk H' locs' hrel')
    · cases h3
  · cases hcal
end
end
section
/-! a run that ends is a run of the machine; a method that ends is a contract -/
theorem zrn_W {p : Program} {l : Launch} {e : Env} {R : Room} {s : State} {m : MethodId} {args : Array Value} {below : List Frame} {meth : Method} {c : Code} {Q : State → Prop} {b sc : Nat} {D : va_G} {cA : Nat → ClassId} {k d cF sF : Nat} {cal : Nat → List ZV → ZH → ZO} {v : Option ZV} {h1 : ZH} (hS : zSnd l d cal) (hkp : zkeep cal) (hk : k < 256) (F : zFr p R s m args meth c D cA k) (hRf : d + 1 ≤ R.frames ∧ 60 * d + 60 ≤ R.locals) (hcF : cF ≤ R.cells) (hsF : sF ≤ R.slots)
    (hret : ∀ (H' : Heap) (locs' : List Loc) (lsA' : Array Slot) (pc' n' : Nat) (i' : Instr) (ls' st' : List ZV), zft k pc' = some (n', i') → zret k i' st' = some v → zRel b sc D cA s k ls' h1 H' locs' lsA' → zGo p l e R s m args below meth c Q b sc cF sF H' locs' lsA' pc' st') :
    ∀ (n pc : Nat) (ls st : List ZV) (h : ZH) (H : Heap) (locs : List Loc) (lsA : Array Slot) (cells slots : Nat), zrn cal k n pc ls st h = some (v, h1) → zRel b sc D cA s k ls h H locs lsA → zoks ls → zoks st → zinv h → cells + h1.1.length = cF + h.1.length → slots + ztot h1.1 = sF + ztot h.1 → zGo p l e R s m args below meth c Q b sc cells slots H locs lsA pc st
  | 0, _, _, _, _, _, _, _, _, _, eq, _, _, _, _, _, _ => by cases eq
  | n + 1, pc, ls, st, h, H, locs, lsA, cells, slots, eq, hrel, hl, hs, hi, hc1, hc2 => by
    have eq : zgo cal k (zrn cal k n) pc ls st h = some (v, h1) := eq
    unfold zgo at eq
    split at eq
    · cases eq
    · next len i hf =>
      split at eq
      · next v' hr =>
        cases eq
        have e1 : cells = cF := by omega
        have e2 : slots = sF := by omega
        subst e1; subst e2
        exact hret H locs lsA pc len i ls st hf hr hrel
      · split at eq
        · next k' kd hcal =>
          split at eq
          · next hcond =>
            obtain ⟨c1, c2, c3⟩ := hcond
            obtain ⟨⟨v', h'⟩, q1, q2⟩ := Option.bind_eq_some_iff.mp eq
            have q2 : zrn cal k n (pc + len) ls (v'.toList ++ st.drop (znA k')) h' = some (v, h1) := q2
            obtain ⟨a1, a2, a3⟩ := hkp _ _ _ _ _ (zoks_take hs _) hi q1
            obtain ⟨b1, b2, b3⟩ := zrn_keep hkp n _ _ _ _ _ _ hl (zoks_v a1 (zoks_drop hs _)) a2 q2
            have l1 := a3.1
            have l2 := a3.2.1
            have l3 := b3.1
            have l4 := b3.2.1
            refine zW_call hS hkp hk hf F hRf hrel hs hi hcal c1 c2 c3 q1 ⟨by omega, by omega⟩ (fun H' locs' hrel' => ?_)
            exact zrn_W hS hkp hk F hRf hcF hsF hret n _ _ _ _ _ _ _ _ _ q2 hrel' hl (zoks_v a1 (zoks_drop hs _)) a2 (by omega) (by omega)
          · cases eq
        · obtain ⟨r, q1, q2⟩ := Option.bind_eq_some_iff.mp eq
          obtain ⟨a1, a2, a3, a4⟩ := zex_inv (zft_stat hf) hl hs hi q1
          obtain ⟨b1, b2, b3⟩ := zrn_keep hkp n _ _ _ _ _ _ a1 a2 a3 q2
          have l1 := a4.1
          have l2 := a4.2.1
          have l3 := b3.1
          have l4 := b3.2.1
          refine zex_W hk hf F hrel hl hs hi q1 ⟨by omega, by omega⟩ ⟨by omega, by omega⟩ (fun H' locs' lsA' cells' slots' hrel' e1 e2 => ?_)
          exact zrn_W hS hkp hk F hRf hcF hsF hret n _ _ _ _ _ _ _ _ _ q2 hrel' a1 a2 a3 (by omega) (by omega)
theorem zlv_rep (b sc : Nat) : ∀ (n i : Nat), zlv b sc i (List.replicate n zU) = []
  | 0, _ => rfl
  | n + 1, i => by rw [List.replicate_succ, zlv_cons, if_pos (show zun zU = true from rfl)]; exact zlv_rep b sc n (i + 1)
theorem zlv_ent (b sc : Nat) (t : List ZV) (ht : ∀ i, zlv b sc i t = []) : ∀ (as : List ZV) (i : Nat) (q : Nat × Value), q ∈ zlv b sc i (as.flatMap (fun v => if zct v = 2 then [v, zU] else [v]) ++ t) → q ∈ lv_args i (as.map (zcv b sc))
  | [], i, q, h => by
    rw [List.flatMap_nil, List.nil_append, ht] at h
    cases h
  | v :: as, i, q, h => by
    rw [List.map_cons]
    unfold lv_args
    rw [zct_cat]
    rw [List.flatMap_cons, List.append_assoc] at h
    by_cases h2 : zct v = 2
    · rw [if_pos h2] at h ⊢
      rw [List.cons_append, List.cons_append, List.nil_append, zlv_cons] at h
      rw [if_neg (by rcases v with x | x | x | x | x <;> simp [zun, zct] at h2 ⊢)] at h
      rcases List.mem_cons.mp h with h | h
      · rw [h]; exact List.mem_cons_self
      · rw [zlv_cons, if_pos (show zun zU = true from rfl)] at h
        exact List.mem_cons_of_mem _ (zlv_ent b sc t ht as (i + 2) q h)
    · rw [if_neg h2] at h ⊢
      rw [List.cons_append, List.nil_append, zlv_cons] at h
      split at h
      · exact List.mem_cons_of_mem _ (zlv_ent b sc t ht as (i + 1) q h)
      · rcases List.mem_cons.mp h with h | h
        · rw [h]; exact List.mem_cons_self
        · exact List.mem_cons_of_mem _ (zlv_ent b sc t ht as (i + 1) q h)
theorem zsl_len (b sc : Nat) : ∀ as : List ZV, (lg_sl (as.map (zcv b sc))).length = (as.flatMap (fun v => if zct v = 2 then [v, zU] else [v])).length
  | [] => rfl
  | v :: as => by
    have ih := zsl_len b sc as
    unfold lg_sl at ih ⊢
    rw [List.map_cons, List.flatMap_cons, List.flatMap_cons, List.length_append, List.length_append, ih, zct_cat]
    by_cases h2 : zct v = 2
    · rw [if_pos h2, if_pos h2]; rfl
    · rw [if_neg h2, if_neg h2]; rfl
theorem zent_len {mx : Nat} {as : List ZV} (h : (as.flatMap (fun v => if zct v = 2 then [v, zU] else [v])).length ≤ mx) : (zent mx as).length = mx := by
  unfold zent
  rw [List.length_append, List.length_replicate]
  omega
theorem zent_has (b sc : Nat) {mx : Nat} {as : List ZV} {lsA : Array Slot} (h : lv_has lsA mx (lv_args 0 (as.map (zcv b sc)))) : lv_has lsA mx (zlv b sc 0 (zent mx as)) :=
  ⟨h.1, h.2.1, fun q hq => h.2.2 q (zlv_ent b sc _ (fun i => zlv_rep b sc _ i) as 0 q hq)⟩
theorem zret_end {p : Program} {l : Launch} {e : Env} {R : Room} {s : State} {m : MethodId} {args : Array Value} {below : List Frame} {meth : Method} {c : Code} {b sc : Nat} {D : va_G} {cA : Nat → ClassId} {k cells slots : Nat} {v : Option ZV} {h1 : ZH} (hk : k < 256) (hx : p.tables.exec = Jvm.exec) (hb : c.code = (zm k).2.2.1) (hr : meth.sig.returnType = zrty k) (hlocks : meth.locks = false) {H' : Heap} {locs' : List Loc} {lsA' : Array Slot} {pc' n' : Nat} {i' : Instr} {ls' st' : List ZV} (hf : zft k pc' = some (n', i')) (hrt : zret k i' st' = some v) (hrel : zRel b sc D cA s k ls' h1 H' locs' lsA') : zGo p l e R s m args below meth c (MQ below (zQc b sc D cA v h1) args s cells slots (fun q => b ≤ q)) b sc cells slots H' locs' lsA' pc' st' := by
  have hd := zd_at hk hf
  have hst := zft_stat hf
  obtain ⟨g1, g2, g3, g5, g6, g7, g8⟩ := hrel
  cases i'
  case ireturn =>
    simp only [zstat, beq_iff_eq] at hst
    subst hst
    unfold zret at hrt
    dsimp only at hrt
    split at hrt
    · next x =>
      split at hrt
      · next hc =>
        cases hrt
        rcases hc with hc | ⟨hc, hx01⟩
        · exact W.iret (v := Int32.ofInt x) hx hb (hr.trans hc) (fun t ht hW => ⟨rfl, by rw [ht]; exact g3, fun q hq => by rw [ht]; exact g5 q hq⟩) g6 hd
        · exact W.zret (v := Int32.ofInt x) (ty := .boolean) hx hb (hr.trans hc) (by rcases hx01 with rfl | rfl <;> rfl) (fun t ht hW => ⟨rfl, by rw [ht]; exact g3, fun q hq => by rw [ht]; exact g5 q hq⟩) g6 hd
      · cases hrt
    · cases hrt
  case lreturn =>
    simp only [zstat, beq_iff_eq] at hst
    subst hst
    unfold zret at hrt
    dsimp only at hrt
    split at hrt
    · next x =>
      split at hrt
      · next hc =>
        cases hrt
        exact W.lret (v := x) hx hb (hr.trans hc) (fun t ht hW => ⟨rfl, by rw [ht]; exact g3, fun q hq => by rw [ht]; exact g5 q hq⟩) g6 hd
      · cases hrt
    · cases hrt
  case return_ =>
    simp only [zstat, beq_iff_eq] at hst
    subst hst
    unfold zret at hrt
    dsimp only at hrt
    split at hrt
    · split at hrt
      · next hc =>
        cases hrt
        exact W.vret hx hb (hr.trans hc) (fun t ht hW => ⟨rfl, by rw [ht]; exact g3, fun q hq => by rw [ht]; exact g5 q hq⟩) g6 hd
      · cases hrt
    · cases hrt
  all_goals cases hrt
theorem zevl_S (l : Launch) : ∀ d, zSnd l d (zevl d)
  | 0 => fun _ _ _ _ _ _ _ _ _ _ _ _ _ eq => by cases eq
  | d + 1 => by
    intro b sc D cA k as h v h1 hk hpl hoas hi eq
    unfold zevl at eq
    split at eq
    · next hlen =>
      obtain ⟨n, hn⟩ := zrun_some eq
      obtain ⟨-, -, b3⟩ := zrn_keep (zevl_keep d) n _ _ _ _ _ _ (zoks_ent hoas) (fun v hv => by cases hv) hi hn
      refine Met.ofW (cc := (zm k).2.2.1) (maxL := zmax k) (ret := zrty k) hpl rfl ?_
      intro p e s m args below meth c s₁ B hml hv
      obtain ⟨rfl, hK, hHR, hsb, hX⟩ := hv
      have hx := B.exec
      have hb := B.bytes
      have hr := B.returns
      have hts := atoms_spec (ws := zwk k) B.pre
      have hown : s.vm.findClass (zCnm (zown k)) = some m.cls := by
        rw [← zcls_ok k (by omega)]
        exact findClass_of_methodNamed B.named
      have hlocks := B.notSynchronized
      have hin : meth.name = (zm k).2.1.name := (name_of_methodNamed B.named B.method).1
      have hl := lv_entry (as.map (zcv b sc)) (n := zmax k) (by rw [zsl_len]; exact hlen)
      rw [lg_entry_eq]
      generalize (lg_sl (as.map (zcv b sc)) ++ List.replicate (zmax k - (lg_sl (as.map (zcv b sc))).length) Slot.unset).toArray = lsA at hl ⊢
      have F : zFr p (headSpec (zwk k) (zrm (d + 1) (h1.1.length - h.1.length) (ztot h1.1 - ztot h.1))).room s m (as.map (zcv b sc)).toArray meth c D cA k := ⟨hx, hb, hml, hown, fun w hw => hts w (List.mem_cons_of_mem _ hw), hK, fun q => by rw [hin]; unfold zini at q; simpa using q, by show 1 ≤ d + 1; omega, by show 40 ≤ 60 * (d + 1); omega⟩
      exact zrn_W (zevl_S l d) (zevl_keep d) (by omega) F ⟨by show d + 1 ≤ d + 1; omega, by show 60 * d + 60 ≤ 60 * (d + 1); omega⟩ (Nat.le_refl _) (Nat.le_refl _)
        (fun H' locs' lsA' pc' n' i' ls' st' q1 q2 q3 => zret_end (by omega) hx hb hr hlocks q1 q2 q3) n 0 (zent (zmax k) as) [] h s.heap [] lsA 0 0 hn ⟨zent_has b sc hl, zent_len hlen, hHR, fun _ _ => rfl, fun _ hq => (List.not_mem_nil hq).elim, hsb, hX⟩ (zoks_ent hoas) (fun v hv => by cases hv) hi (by have := b3.1; show 0 + h1.1.length = (h1.1.length - h.1.length) + h.1.length; omega) (by have := b3.2.1; show 0 + ztot h1.1 = (ztot h1.1 - ztot h.1) + ztot h.1; omega)
    · cases eq
end
section
/-! THE CLAIM OUT OF ONE WALK OF THE LAW'S BODY. Your part is whole_start (and what it stands on); all else here is the same for every law, but numbers. -/
def R_law : String := "DungeonBuilderLaw"
def lw_P (b : Addr) (xs : List Int32) (args : Array Value) (s : State) : Prop := args = #[.ref b] ∧ s.IntsAt b xs ∧ xs.length ≤ 2560 ∧ (Jvm.Cond.and given_1 narrow_1).before args s = true
/-- what a walk over the start with the record d0 says of its end, said of the start itself -/
theorem lw_closed {s t : State} {o : Outcome} {d0 : Drawn} {L : List Loc} {k n : Nat} (hd0 : s.drawn.sameBut d0 lw_cs) (hv : ∃ v, o = .returned v) (hW : (s.setDrawn d0).WarmedH t.vm) (hs : (s.setDrawn d0).sameButNew ({ t with vm := s.vm } : State) L k n) : State.butDraws s t lw_cs (fun t1 => Framed s o t1 L k n) := by
  have h2 : t.drawn = d0 := congrArg State.drawn hs.1
  refine ⟨⟨hv, hW, State.sameButNew.setDrawn hs s.drawn⟩, ?_, by decide⟩
  rw [h2]
  exact hd0
def lw_Q (_ : Array Value) (s : State) (o : Outcome) (t : State) : Prop := o = .returned (some (.int 1)) ∧ State.butDraws s t lw_cs (fun t1 => Framed s o t1 [] 600000 7302250)
def lw_Z (below : List Frame) (a : Array Value) (s : State) : State → Prop := fun t => ∃ o, t.status = .running ∧ Ended t below o ∧ lw_Q a s o t
/-- the law's own end, with 1 on the stack, nothing written that was there before, its room as the claim has it; d0: the record of draws at this point (at the entry s.drawn: begin with 'refine W.base ?_' and 'have hd0 := Drawn.sameBut.refl s.drawn lw_cs') -/
theorem lw_ret {p : Program} {l : Launch} {e : Env} {s : State} {m : MethodId} {below : List Frame} {meth : Method} {c : Code} {b : Nat} {d0 : Drawn} (hd0 : s.drawn.sameBut d0 lw_cs) (hx : p.tables.exec = Jvm.exec) (hb : c.code = code) (hr : meth.sig.returnType = ret) (hlocks : meth.locks = false) {pc : Nat} {H : Heap} {ls : Array Slot} (hdg : decode code pc = .ok (.ireturn, 1)) : W p l e room_1 (s.setDrawn d0) m #[Value.ref b] below meth c H [] 600000 7302250 (lw_Z below #[Value.ref b] s) (F0 m pc ls [.int 1]) := by
  intro T hT X
  obtain ⟨fs, hret, hrun, hended, hW, hframe⟩ := X.leave (v := some (.int 1)) (hlocks := hlocks) (fun h => by rw [hr] at h; cases h)
  have hmeth' : T.vm.method? m = some meth := X.method'
  refine ⟨T.setFrames fs, ?_, .returned (some (.int 1)), hrun, hended, rfl, lw_closed hd0 ⟨_, rfl⟩ hW hframe⟩
  jvm_step X.here [X.here.top, hx, hb, hdg, hmeth', hr, ret, narrow_b1]
  (try refine ⟨rfl, ?_⟩); (try refine ⟨rfl, ?_⟩)
  first | (intro acts; rw [hret _ acts rfl rfl rfl]) | rw [hret _ _ rfl rfl rfl]
  exact Steps.refl _
/-- what holds at the law's entry: the machine, the code, the tables' words (any of lw_tbl by 'hts w (by decide +kernel)'), the script of L ints xs at the cell b, what the Statement gives of the start (any of its parts by flat_of_before) -/
def lw_At (p : Program) (s : State) (m : MethodId) (meth : Method) (c : Code) (b L : Nat) (xs : Nat → Int32) : Prop :=
  p.tables.exec = Jvm.exec ∧ c.code = code ∧ meth.sig.returnType = ret ∧ c.maxLocals = 4 ∧ s.vm.findClass R_law = some m.cls ∧ (∀ w ∈ lw_tbl, w.before #[Value.ref b] s = true) ∧ va_X b L xs s s.heap ∧ b < s.heap.size ∧ meth.locks = false ∧ (Jvm.Cond.and given_1 narrow_1).before #[Value.ref b] s = true

/-! the law's walk, out of a run of the numbers' machine -/
def zM0 (L : Nat) (xs : Nat → Int32) : ZM := fun a j => if a = zSC then (if j = -1 then (L : Int) + 1 else if 0 ≤ j ∧ j < L then (xs j.toNat).toInt else 0) else 0
/-- what is left to prove of numbers -/
def zPure : Prop := ∀ (L : Nat) (xs : Nat → Int32), L ≤ 2560 → ∃ (n : Nat) (h1 : ZH), zrn (zevl 60) 255 n 0 [zR zSC, zU, zU, zU] [] ([], zM0 L xs) = some (some (zI 1), h1) ∧ h1.1.length ≤ 600000 ∧ ztot h1.1 ≤ 7302250
theorem zinst_ok : ∀ ci, ci < 11 → zin (.instantiable (zC ci) (zN ci)) = true := by decide +kernel
theorem zK_start {s : State} {args : Array Value} (hts : ∀ w ∈ lw_tbl, w.before args s = true) : ∃ (D : va_G) (cA : Nat → ClassId), zK D cA s := by
  have hts2 : ∀ w ∈ zWs, w.before args s = true := fun w hw => hts w (List.mem_filter.mp hw).1
  have hc : ∀ ci, ∃ (cC : ClassId) (iS : Nat → Nat), ci < 11 → u_Kn s (zC ci) (zT ci) (zN ci) cC iS := by
    intro ci
    by_cases h : ci < 11
    · obtain ⟨cC, iS, h1⟩ := u_known hts2 (zu_in h) (hts2 _ (zwk_of (zinst_ok ci h)))
      exact ⟨cC, iS, fun _ => h1⟩
    · exact ⟨0, fun _ => 0, fun q => absurd q h⟩
  have harr : ∀ ty, Cond.arrayClass ty ∈ zWs → (∀ C, ty ≠ .object C) → ∃ cA, ArrOfT s cA ty ∧ va_RA s cA ty := by
    intro ty hw hno
    obtain ⟨c, k, comp, h1, h2, h3⟩ := Cond.arrayClass_spec (hts2 _ hw)
    refine ⟨c, fun n z => ⟨fun k h => (by cases h), k, h2, comp, h3⟩, ?_⟩
    unfold va_RA
    split
    · exact absurd rfl (hno _)
    · exact h1
  have haw := zAn_ok
  simp only [Bool.and_eq_true, decide_eq_true_eq] at haw
  obtain ⟨a0, p0, q0⟩ := harr .int (zwk_of (by decide +kernel)) (fun C q => by cases q)
  obtain ⟨a1, p1, q1⟩ := harr .char (zwk_of (by decide +kernel)) (fun C q => by cases q)
  obtain ⟨a2, p2, q2⟩ := harr .boolean (zwk_of (by decide +kernel)) (fun C q => by cases q)
  obtain ⟨m0, a3, k3, r1, r2, r3, r4, r5⟩ := Cond.arrayOver_spec (hts _ haw.1.2)
  obtain ⟨m1, a4, k4, t1, t2, t3, t4, t5⟩ := arrayOverA_spec (hts _ haw.2)
  refine ⟨(fun ci => Classical.choose (hc ci), fun ci => Classical.choose (Classical.choose_spec (hc ci))), fun kd => if kd = 20 then a0 else if kd = 21 then a1 else if kd = 22 then a2 else if kd = 23 then a3 else a4, ⟨fun ci q hq => ?_, fun k q hq => ?_⟩, fun w hw => ?_, va_AO.of (hts _ haw.1.2), hts _ haw.2⟩
  · have hci : ci < 11 := (List.getElem?_eq_some_iff.mp hq).1
    rw [zCl_at hci] at hq
    cases hq
    exact Classical.choose_spec (Classical.choose_spec (hc ci)) hci
  · match k, hq with
    | 0, hq => cases hq; exact ⟨p0, q0⟩
    | 1, hq => cases hq; exact ⟨p1, q1⟩
    | 2, hq => cases hq; exact ⟨p2, q2⟩
    | 3, hq =>
      cases hq
      exact ⟨fun n z => ⟨fun k h => (by cases h), k3, r3, m0, r4⟩, k3, m0, r3, r4, r1, r5⟩
    | 4, hq =>
      cases hq
      exact ⟨fun n z => ⟨fun k h => (by cases h), k4, t3, m1, t4⟩, t5⟩
    | k + 5, hq => simp [zTy] at hq
  · have h1 := hts w (List.mem_filter.mp hw).1
    have h2 := (List.mem_filter.mp hw).2
    revert h1
    cases w <;> first | exact fun h1 => va_Nw.of rfl h1 | cases h2
theorem zM0_inv (L : Nat) (xs : Nat → Int32) (hL : L ≤ 2560) : zinv ([], zM0 L xs) := by
  refine ⟨fun c hc => (List.not_mem_nil hc).elim, fun a i => ?_, Nat.zero_le _⟩
  show zrg (zM0 L xs a i)
  unfold zM0
  split
  · split
    · exact ⟨by omega, by omega⟩
    · split
      · exact zrg_i _
      · exact zrg_0
  · exact zrg_0
theorem whole_of (H0 : zPure) {p : Program} {e : Env} {s : State} {m : MethodId} {below : List Frame} {meth : Method} {c : Code} (l : Launch) (hflags : l.flags = flags0) {b L : Nat} {xs : Nat → Int32} (hL : L ≤ 2560) (C0 : lw_At p s m meth c b L xs) : W p l e room_1 s m #[Value.ref b] below meth c s.heap [] 0 0 (lw_Z below #[Value.ref b] s) (entryFrame m ([Value.ref b] : List Value).toArray 4) := by
  obtain ⟨hx, hb, hr, hml, hown, hts, hX, hbl, hlocks, hgv⟩ := C0
  obtain ⟨n, h1, hn, hl1, hl2⟩ := H0 L xs hL
  obtain ⟨D, cA, hK⟩ := zK_start hts
  have hts2 : ∀ w ∈ zWs, w.before #[Value.ref b] s = true := fun w hw => hts w (List.mem_filter.mp hw).1
  have hl := lv_entry ([.ref b]) (n := 4) (Nat.le_of_ble_eq_true rfl)
  rw [lg_entry_eq]
  generalize (lg_sl ([.ref b]) ++ List.replicate (4 - (lg_sl ([.ref b])).length) Slot.unset).toArray = ls at hl ⊢
  have hl : lv_has ls 4 [(0, .ref b)] := hl
  have F : zFr p room_1 s m #[Value.ref b] meth c D cA 255 := ⟨hx, hb, hml, hown, hts2, hK, fun q => absurd q (by decide +kernel), by decide, by decide⟩
  have hz : zad s.heap.size b zSC = b := by unfold zad; rw [if_pos rfl]
  refine zrn_W (k := 255) (d := 60) (cF := h1.1.length) (sF := ztot h1.1) (b := s.heap.size) (sc := b) (D := D) (cA := cA) (cal := zevl 60) (v := some (zI 1)) (h1 := h1) (zevl_S l 60) (zevl_keep 60) (by decide) F (by decide) hl1 hl2 ?_ n 0 [zR zSC, zU, zU, zU] [] ([], zM0 L xs) s.heap [] ls 0 0 hn ⟨?_, rfl, ⟨rfl, fun k q h => by simp [zws] at h⟩, fun _ _ => rfl, fun q hq => (List.not_mem_nil hq).elim, hbl, L, xs, hX, hL, ?_, ?_⟩ ?_ (fun v hv => (List.not_mem_nil hv).elim) (zM0_inv L xs hL) (by show 0 + _ = _ + 0; omega) (by show 0 + _ = _ + 0; omega)
  · intro H' locs' lsA' pc' n' i' ls' st' q1 q2 q3
    have hd := zd_at (k := 255) (by decide) q1
    have hst := zft_stat q1
    cases i'
    case ireturn =>
      simp only [zstat, beq_iff_eq] at hst
      subst hst
      unfold zret at q2
      dsimp only at q2
      split at q2
      · next x =>
        split at q2
        · cases q2
          refine va_forget q3.2.2.2.2.1 (W.widen hl1 hl2 ?_)
          exact W.base (lw_ret (Drawn.sameBut.refl s.drawn lw_cs) hx hb hr hlocks hd)
        · cases q2
      · cases q2
    case lreturn =>
      unfold zret at q2
      dsimp only at q2
      split at q2
      · split at q2
        · cases q2
        · cases q2
      · cases q2
    case return_ =>
      unfold zret at q2
      dsimp only at q2
      split at q2
      · split at q2
        · cases q2
        · cases q2
      · cases q2
    all_goals cases q2
  · show lv_has ls 4 [(0, .ref (zad s.heap.size b zSC))]
    rw [hz]
    exact hl
  · show zM0 L xs zSC (-1) = L + 1
    unfold zM0
    rw [if_pos rfl, if_pos rfl]
  · intro j hj
    show zM0 L xs zSC j = _
    unfold zM0
    rw [if_pos rfl, if_neg (by omega), if_pos ⟨by omega, by omega⟩]
    rfl
  · intro v hv
    simp only [List.mem_cons, List.not_mem_nil, or_false] at hv
    rcases hv with rfl | rfl | rfl | rfl <;> trivial
end
section
/-! a run that doesn't ask the script is the same beside any script -/
def zag (h g : ZH) : Prop := h.1 = g.1 ∧ ∀ a, a ≠ zSC → h.2 a = g.2 a
def zns (h : ZH) : Prop := h.2 zSC (-1) = 0
theorem zag_wr {h g : ZH} (ha : zag h g) (a : Nat) (i v : Int) : zag (h.1, zwr h.2 a i v) (g.1, zwr g.2 a i v) := ⟨ha.1, fun b hb => by
  funext j
  show zwr h.2 a i v b j = zwr g.2 a i v b j
  unfold zwr
  rw [ha.2 b hb]⟩
theorem zag_zr {h g : ZH} (ha : zag h g) (s : ZS) (a n : Nat) : zag (s, zzr h.2 a n) (s, zzr g.2 a n) := ⟨rfl, fun b hb => by
  funext j
  show zzr h.2 a n b j = zzr g.2 a n b j
  unfold zzr
  rw [ha.2 b hb]⟩
theorem zne_sc {h : ZH} (hi : zinv h) {a : Nat} (hk : zkn h.1 a < 99) : a ≠ zSC := by
  have h1 := zkn_lt hk
  have h2 := hi.2.2
  intro q
  unfold zSC at q
  omega
/-- what a step comes to beside another script -/
def zsm (r : Nat × List ZV × List ZV × ZH) (x : Option (Nat × List ZV × List ZV × ZH)) : Prop := ∃ g', x = some (r.1, r.2.1, r.2.2.1, g') ∧ zag r.2.2.2 g'
section
variable {o pc n j ci k kd : Nat} {ls st : List ZV} {h g : ZH} {r : Nat × List ZV × List ZV × ZH}
theorem zc_push {v : Option ZV} (ha : zag h g) (e : zpush pc ls st h v = some r) : zsm r (zpush pc ls st g v) := by
  obtain ⟨x, h1, rfl⟩ := Option.map_eq_some_iff.mp e
  exact ⟨g, by unfold zpush; rw [h1]; rfl, ha⟩
theorem zc_si (ha : zag h g) (e : zsi pc ls st h j = some r) : zsm r (zsi pc ls st g j) := by
  unfold zsi at e ⊢
  split at e
  · obtain ⟨x, h1, rfl⟩ := Option.map_eq_some_iff.mp e
    exact ⟨g, by rw [h1]; rfl, ha⟩
  · cases e
theorem zc_sa (ha : zag h g) (e : zsa pc ls st h j = some r) : zsm r (zsa pc ls st g j) := by
  unfold zsa at e ⊢
  split at e
  · obtain ⟨x, h1, rfl⟩ := Option.map_eq_some_iff.mp e
    exact ⟨g, by rw [h1]; rfl, ha⟩
  · cases e
theorem zc_sl (ha : zag h g) (e : zsl pc ls st h j = some r) : zsm r (zsl pc ls st g j) := by
  unfold zsl at e ⊢
  split at e
  · obtain ⟨x, h1, rfl⟩ := Option.map_eq_some_iff.mp e
    exact ⟨g, by rw [h1]; rfl, ha⟩
  · cases e
theorem zc_sd (ha : zag h g) (e : zsd pc ls st h j = some r) : zsm r (zsd pc ls st g j) := by
  unfold zsd at e ⊢
  split at e
  · obtain ⟨x, h1, rfl⟩ := Option.map_eq_some_iff.mp e
    exact ⟨g, by rw [h1]; rfl, ha⟩
  · cases e
theorem zc_bi {f : Int → Int → Option Int} (ha : zag h g) (e : zbi pc ls st h f = some r) : zsm r (zbi pc ls st g f) := by
  unfold zbi at e ⊢
  split at e
  · obtain ⟨x, h1, rfl⟩ := Option.map_eq_some_iff.mp e
    exact ⟨g, by rw [h1]; rfl, ha⟩
  · cases e
theorem zc_bl {f : Int64 → Int64 → ZV} (ha : zag h g) (e : zbl pc ls st h f = some r) : zsm r (zbl pc ls st g f) := by
  unfold zbl at e ⊢
  split at e
  · cases e; exact ⟨g, rfl, ha⟩
  · cases e
theorem zc_bd {f : UInt64 → UInt64 → Option ZV} (ha : zag h g) (e : zbd pc ls st h f = some r) : zsm r (zbd pc ls st g f) := by
  unfold zbd at e ⊢
  split at e
  · obtain ⟨x, h1, rfl⟩ := Option.map_eq_some_iff.mp e
    exact ⟨g, by rw [h1]; rfl, ha⟩
  · cases e
theorem zc_get (hi : zinv h) (hci : ci < 99) (ha : zag h g) (e : zget ci k pc ls st h = some r) : zsm r (zget ci k pc ls st g) := by
  unfold zget at e ⊢
  split at e
  · split at e
    · next hk =>
      rw [← ha.1, if_pos hk]
      split at e
      · next h2 =>
        rw [if_pos h2]
        split at e
        · cases e
        · next q hq => cases e; exact ⟨g, rfl, ha⟩
      · next h2 =>
        cases e
        rw [if_neg h2, ← ha.2 _ (zne_sc hi (by omega))]
        exact ⟨g, rfl, ha⟩
    · cases e
  · cases e
theorem zc_put (ha : zag h g) (e : zput ci k pc ls st h = some r) : zsm r (zput ci k pc ls st g) := by
  unfold zput at e ⊢
  split at e
  · split at e
    · next hk =>
      cases e
      rw [← ha.1, if_pos hk]
      exact ⟨_, rfl, by have := zag_wr ha; exact ⟨rfl, (this _ _ _).2⟩⟩
    · cases e
  · split at e
    · next hk =>
      cases e
      rw [← ha.1, if_pos hk]
      exact ⟨_, rfl, rfl, ha.2⟩
    · cases e
  · cases e
theorem zc_ald (hi : zinv h) (hkd : kd < 99) (ha : zag h g) (e : zald kd pc ls st h = some r) : zsm r (zald kd pc ls st g) := by
  unfold zald at e ⊢
  split at e
  · split at e
    · next hk =>
      cases e
      rw [← ha.1, if_pos hk, ← ha.2 _ (zne_sc hi (by omega))]
      exact ⟨g, rfl, ha⟩
    · cases e
  · cases e
theorem zc_ald0 (hi : zinv h) (hkd : kd < 99) (ha : zag h g) (e : zald kd pc ls st h = none) : zald kd pc ls st g = none := by
  unfold zald at e ⊢
  split at e
  · split at e
    · cases e
    · next hk =>
      rw [← ha.1, if_neg hk]
  · rfl
theorem zc_sld (hn : zns h) (e : zsld pc ls st h = some r) : False := by
  unfold zsld at e
  unfold zns at hn
  split at e
  · split at e
    · split at e
      · next hh => rw [hn] at hh; omega
      · cases e
    · cases e
  · cases e
theorem zc_ast {ok : Int → Bool} (ha : zag h g) (e : zast kd pc ls st h ok = some r) : zsm r (zast kd pc ls st g ok) := by
  unfold zast at e ⊢
  split at e
  · split at e
    · next hk =>
      cases e
      rw [← ha.1, if_pos hk]
      exact ⟨_, rfl, by have := zag_wr ha; exact ⟨rfl, (this _ _ _).2⟩⟩
    · cases e
  · cases e
theorem zc_aal (ha : zag h g) (e : zaal pc ls st h = some r) : zsm r (zaal pc ls st g) := by
  unfold zaal at e ⊢
  split at e
  · split at e
    · next hk =>
      rw [← ha.1, if_pos hk]
      split at e
      · cases e
      · next q hq => cases e; exact ⟨g, rfl, ha⟩
    · cases e
  · cases e
theorem zc_aas (ha : zag h g) (e : zaas pc ls st h = some r) : zsm r (zaas pc ls st g) := by
  unfold zaas at e ⊢
  split at e
  · split at e
    · next hk =>
      cases e
      rw [← ha.1, if_pos hk]
      exact ⟨_, rfl, rfl, ha.2⟩
    · cases e
  · cases e
theorem zc_alen (hn : zns h) (ha : zag h g) (e : zalen pc ls st h = some r) : zsm r (zalen pc ls st g) := by
  unfold zalen at e ⊢
  unfold zns at hn
  split at e
  · split at e
    · split at e
      · next hh => rw [hn] at hh; omega
      · cases e
    · next hs =>
      split at e
      · next hk =>
        cases e
        rw [← ha.1, if_neg hs, if_pos hk]
        exact ⟨g, rfl, ha⟩
      · cases e
  · cases e
theorem zc_new (ha : zag h g) (e : znew ci pc ls st h = some r) : zsm r (znew ci pc ls st g) := by
  unfold znew at e ⊢
  rw [← ha.1]
  split at e
  · cases e
  · next hk =>
    cases e
    rw [if_neg hk]
    exact ⟨_, rfl, zag_zr ha _ _ _⟩
theorem zc_nwa (ha : zag h g) (e : znwa kd pc ls st h = some r) : zsm r (znwa kd pc ls st g) := by
  unfold znwa at e ⊢
  split at e
  · split at e
    · next hk =>
      cases e
      rw [← ha.1, if_pos hk]
      exact ⟨_, rfl, zag_zr ha _ _ _⟩
    · cases e
  · cases e
theorem zc_mna (ha : zag h g) (e : zmna pc ls st h = some r) : zsm r (zmna pc ls st g) := by
  unfold zmna at e ⊢
  split at e
  · split at e
    · next hk =>
      cases e
      rw [← ha.1, if_pos hk]
      exact ⟨_, rfl, zag_zr ha _ _ _⟩
    · cases e
  · cases e
theorem zc_nat (ha : zag h g) (e : znat kd pc ls st h = some r) : zsm r (znat kd pc ls st g) := by
  unfold znat at e ⊢
  split at e
  · split at e
    · cases e; exact ⟨g, rfl, ha⟩
    · cases e
  · split at e
    · cases e; exact ⟨g, rfl, ha⟩
    · cases e
  · split at e
    · cases e; exact ⟨g, rfl, ha⟩
    · cases e
  · split at e
    · cases e; exact ⟨g, rfl, ha⟩
    · cases e
  · cases e
end
set_option maxHeartbeats 4000000 in
theorem zex_ag {o pc n : Nat} {i : Instr} {ls st : List ZV} {h g : ZH} {r : Nat × List ZV × List ZV × ZH} (hi : zinv h) (hn : zns h) (ha : zag h g) (e : zex o i pc n ls st h = some r) : zsm r (zex o i pc n ls st g) := by
  cases i
  case ldc x =>
    obtain ⟨v, h1, rfl⟩ := Option.map_eq_some_iff.mp e
    exact ⟨g, by show Option.map _ _ = _; rw [h1]; rfl, ha⟩
  case ldc_w x =>
    obtain ⟨v, h1, rfl⟩ := Option.map_eq_some_iff.mp e
    exact ⟨g, by show Option.map _ _ = _; rw [h1]; rfl, ha⟩
  case ldc2_w x =>
    unfold zex at e ⊢
    dsimp only at e ⊢
    split at e
    · next v hv => cases e; exact ⟨g, rfl, ha⟩
    · next hv =>
      obtain ⟨v, h1, rfl⟩ := Option.map_eq_some_iff.mp e
      rw [h1]
      exact ⟨g, rfl, ha⟩
  case dconst d =>
    unfold zex at e ⊢
    dsimp only at e ⊢
    split at e
    · next hh => cases e; rw [if_pos hh]; exact ⟨g, rfl, ha⟩
    · cases e
  case iload j => exact zc_push ha e
  case iload_n j => exact zc_push ha e
  case aload j => exact zc_push ha e
  case aload_n j => exact zc_push ha e
  case lload j => exact zc_push ha e
  case dload_n j => exact zc_push ha e
  case istore j => exact zc_si ha e
  case istore_n j => exact zc_si ha e
  case astore_n j => exact zc_sa ha e
  case lstore j => exact zc_sl ha e
  case dstore_n j => exact zc_sd ha e
  case iinc j c =>
    unfold zex at e ⊢
    dsimp only at e ⊢
    split at e
    · next x hx =>
      obtain ⟨l, h1, rfl⟩ := Option.map_eq_some_iff.mp e
      rw [h1]
      exact ⟨g, rfl, ha⟩
    · cases e
  case getfield x =>
    obtain ⟨q, h1, h2⟩ := Option.bind_eq_some_iff.mp e
    have := zc_get hi (by have := (zFl_ok h1).1; omega) ha h2
    unfold zex
    dsimp only
    rw [h1]
    exact this
  case putfield x =>
    obtain ⟨q, h1, h2⟩ := Option.bind_eq_some_iff.mp e
    have := zc_put ha h2
    unfold zex
    dsimp only
    rw [h1]
    exact this
  case iaload =>
    unfold zex at e ⊢
    dsimp only at e ⊢
    split at e
    · next hh =>
      cases e
      obtain ⟨g', q1, q2⟩ := zc_ald hi (by decide) ha hh
      rw [q1]
      exact ⟨g', rfl, q2⟩
    · exact absurd (zc_sld hn e) id
  case caload => exact zc_ald hi (by decide) ha e
  case baload => exact zc_ald hi (by decide) ha e
  case aaload => exact zc_aal ha e
  case iastore => exact zc_ast ha e
  case castore => exact zc_ast ha e
  case bastore => exact zc_ast ha e
  case aastore => exact zc_aas ha e
  case arraylength => exact zc_alen hn ha e
  case dup =>
    unfold zex at e ⊢
    dsimp only at e ⊢
    split at e
    · split at e
      · next hh => cases e; rw [if_pos hh]; exact ⟨g, rfl, ha⟩
      · cases e
    · cases e
  case dup2 =>
    unfold zex at e ⊢
    dsimp only at e ⊢
    split at e
    · split at e
      · next hh => cases e; rw [if_pos hh]; exact ⟨g, rfl, ha⟩
      · cases e
    · cases e
  case pop =>
    unfold zex at e ⊢
    dsimp only at e ⊢
    split at e
    · split at e
      · next hh => cases e; rw [if_pos hh]; exact ⟨g, rfl, ha⟩
      · cases e
    · cases e
  case iadd => exact zc_bi ha e
  case isub => exact zc_bi ha e
  case imul => exact zc_bi ha e
  case idiv => exact zc_bi ha e
  case irem => exact zc_bi ha e
  case iand => exact zc_bi ha e
  case ior => exact zc_bi ha e
  case ixor => exact zc_bi ha e
  case ishl => exact zc_bi ha e
  case ishr => exact zc_bi ha e
  case iushr => exact zc_bi ha e
  case ladd => exact zc_bl ha e
  case lor => exact zc_bl ha e
  case lcmp => exact zc_bl ha e
  case dsub => exact zc_bd ha e
  case dmul => exact zc_bd ha e
  case ddiv => exact zc_bd ha e
  case dcmp c => exact zc_bd ha e
  case i2c =>
    unfold zex at e ⊢
    dsimp only at e ⊢
    split at e
    · split at e
      · next hh => cases e; rw [if_pos hh]; exact ⟨g, rfl, ha⟩
      · cases e
    · cases e
  case tableswitch d lo hi' offs =>
    unfold zex at e ⊢
    dsimp only at e ⊢
    split at e
    · split at e
      · next hh => cases e; rw [if_pos hh]; exact ⟨g, rfl, ha⟩
      · next hh =>
        obtain ⟨l, h1, rfl⟩ := Option.map_eq_some_iff.mp e
        rw [if_neg hh, h1]
        exact ⟨g, rfl, ha⟩
    · cases e
  case new x =>
    obtain ⟨q, h1, h2⟩ := Option.bind_eq_some_iff.mp e
    have := zc_new ha h2
    unfold zex
    dsimp only
    rw [h1]
    exact this
  case newarray t => exact zc_nwa ha e
  case anewarray x =>
    unfold zex at e ⊢
    dsimp only at e ⊢
    split at e
    · next hh => rw [if_pos hh]; exact zc_nwa ha e
    · cases e
  case multianewarray x d =>
    unfold zex at e ⊢
    dsimp only at e ⊢
    split at e
    · next hh => rw [if_pos hh]; exact zc_mna ha e
    · cases e
  case invokespecial x =>
    unfold zex at e ⊢
    dsimp only at e ⊢
    split at e
    · next hh =>
      rw [if_pos hh]
      split at e
      · cases e; exact ⟨g, rfl, ha⟩
      · cases e
    · cases e
  case invokestatic x =>
    obtain ⟨q, h1, h2⟩ := Option.bind_eq_some_iff.mp e
    unfold zex
    dsimp only
    rw [h1]
    split at h2
    · next hh =>
      show zsm r (if _ then _ else _)
      rw [if_pos hh]
      exact zc_nat ha h2
    · cases h2
  all_goals first
    | (cases e; exact ⟨g, rfl, ha⟩)
    | (unfold zex at e ⊢; dsimp only at e ⊢; split at e <;> first | (cases e; exact ⟨g, rfl, ha⟩) | cases e)
    | cases e
/-- a method's answer beside another script -/
def zcag (cal cal' : Nat → List ZV → ZH → ZO) : Prop := ∀ k as h g v h1, zoks as → zinv h → zns h → zag h g → cal k as h = some (v, h1) → ∃ g1, cal' k as g = some (v, g1) ∧ zag h1 g1
theorem zns_le {h h1 : ZH} (hn : zns h) (hl : zle h h1) : zns h1 := by
  unfold zns at *
  rw [hl.2.2, hn]
theorem zrn_ag {cal cal' : Nat → List ZV → ZH → ZO} (hkp : zkeep cal) (hc : zcag cal cal') {k : Nat} : ∀ (n pc : Nat) (ls st : List ZV) (h g : ZH) (v : Option ZV) (h1 : ZH), zoks ls → zoks st → zinv h → zns h → zag h g → zrn cal k n pc ls st h = some (v, h1) → ∃ g1, zrn cal' k n pc ls st g = some (v, g1) ∧ zag h1 g1
  | 0, _, _, _, _, _, _, _, _, _, _, _, _, e => by cases e
  | n + 1, pc, ls, st, h, g, v, h1, hl, hs, hi, hn, ha, e => by
    have e : zgo cal k (zrn cal k n) pc ls st h = some (v, h1) := e
    show ∃ g1, zgo cal' k (zrn cal' k n) pc ls st g = some (v, g1) ∧ zag h1 g1
    unfold zgo at e ⊢
    split at e
    · cases e
    · next len i hf =>
      split at e
      · next v' hr => cases e; exact ⟨g, rfl, ha⟩
      · next hr =>
        split at e
        · next k' kd hcal =>
          split at e
          · next hcond =>
            have e9 : zrcv k' kd (List.take (znA k') st).reverse g = zrcv k' kd (List.take (znA k') st).reverse h := by
              unfold zrcv
              rw [ha.1]
            rw [if_pos ⟨hcond.1, hcond.2.1, by rw [e9]; exact hcond.2.2⟩]
            obtain ⟨⟨v', h'⟩, q1, q2⟩ := Option.bind_eq_some_iff.mp e
            have q2 : zrn cal k n (pc + len) ls (v'.toList ++ st.drop (znA k')) h' = some (v, h1) := q2
            obtain ⟨a1, a2, a3⟩ := hkp _ _ _ _ _ (zoks_take hs _) hi q1
            obtain ⟨g', r1, r2⟩ := hc _ _ _ g _ _ (zoks_take hs _) hi hn ha q1
            rw [r1]
            exact zrn_ag hkp hc n _ _ _ _ g' _ _ hl (zoks_v a1 (zoks_drop hs _)) a2 (zns_le hn a3) r2 q2
          · cases e
        · next hcal =>
          obtain ⟨r, q1, q2⟩ := Option.bind_eq_some_iff.mp e
          obtain ⟨a1, a2, a3, a4⟩ := zex_inv (zft_stat hf) hl hs hi q1
          obtain ⟨g', r1, r2⟩ := zex_ag hi hn ha q1
          rw [r1]
          exact zrn_ag hkp hc n _ _ _ _ g' _ _ a1 a2 a3 (zns_le hn a4) r2 q2
theorem zevl_ag : ∀ d, zcag (zevl d) (zevl d)
  | 0 => fun _ _ _ _ _ _ _ _ _ _ e => by cases e
  | d + 1 => fun k as h g v h1 hs hi hn ha e => by
    unfold zevl at e ⊢
    split at e
    · next hh =>
      rw [if_pos hh]
      obtain ⟨n, q⟩ := zrun_some e
      obtain ⟨g1, r1, r2⟩ := zrn_ag (zevl_keep d) (zevl_ag d) n _ _ _ _ g _ _ (zoks_ent hs) (fun v hv => by cases hv) hi hn ha q
      exact ⟨g1, zrun_of r1, r2⟩
    · cases e
end
section
/-! the cells behind both constructors, and what the memory is then -/
def SH : ZS := [(9, 10, [2, 11, 20, 85, 110, 119, 121, 126, 133, 0]), (1, 12, [3, 4, 5, 6, 7, 8, 9, 10, 0, 0, 0, 0]), (20, 12, List.replicate 12 0), (20, 12, List.replicate 12 0), (20, 12, List.replicate 12 0), (20, 12, List.replicate 12 0), (20, 12, List.replicate 12 0), (20, 20, List.replicate 20 0), (20, 20, List.replicate 20 0), (20, 20, List.replicate 20 0), (1, 12, [12, 13, 14, 15, 16, 17, 18, 19, 0, 0, 0, 0]), (20, 12, List.replicate 12 0), (20, 12, List.replicate 12 0), (20, 12, List.replicate 12 0), (20, 12, List.replicate 12 0), (20, 12, List.replicate 12 0), (20, 20, List.replicate 20 0), (20, 20, List.replicate 20 0), (20, 20, List.replicate 20 0), (4, 3, [21, 0, 0]), (23, 7, [22, 31, 40, 49, 58, 67, 76]), (1, 12, [23, 24, 25, 26, 27, 28, 29, 30, 0, 0, 0, 0]), (20, 12, List.replicate 12 0), (20, 12, List.replicate 12 0), (20, 12, List.replicate 12 0), (20, 12, List.replicate 12 0), (20, 12, List.replicate 12 0), (20, 20, List.replicate 20 0), (20, 20, List.replicate 20 0), (20, 20, List.replicate 20 0), (1, 12, [32, 33, 34, 35, 36, 37, 38, 39, 0, 0, 0, 0]), (20, 12, List.replicate 12 0), (20, 12, List.replicate 12 0), (20, 12, List.replicate 12 0), (20, 12, List.replicate 12 0), (20, 12, List.replicate 12 0), (20, 20, List.replicate 20 0), (20, 20, List.replicate 20 0), (20, 20, List.replicate 20 0), (1, 12, [41, 42, 43, 44, 45, 46, 47, 48, 0, 0, 0, 0]), (20, 12, List.replicate 12 0), (20, 12, List.replicate 12 0), (20, 12, List.replicate 12 0), (20, 12, List.replicate 12 0), (20, 12, List.replicate 12 0), (20, 20, List.replicate 20 0), (20, 20, List.replicate 20 0), (20, 20, List.replicate 20 0), (1, 12, [50, 51, 52, 53, 54, 55, 56, 57, 0, 0, 0, 0]), (20, 12, List.replicate 12 0), (20, 12, List.replicate 12 0), (20, 12, List.replicate 12 0), (20, 12, List.replicate 12 0), (20, 12, List.replicate 12 0), (20, 20, List.replicate 20 0), (20, 20, List.replicate 20 0), (20, 20, List.replicate 20 0), (1, 12, [59, 60, 61, 62, 63, 64, 65, 66, 0, 0, 0, 0]), (20, 12, List.replicate 12 0), (20, 12, List.replicate 12 0), (20, 12, List.replicate 12 0), (20, 12, List.replicate 12 0), (20, 12, List.replicate 12 0), (20, 20, List.replicate 20 0), (20, 20, List.replicate 20 0), (20, 20, List.replicate 20 0), (1, 12, [68, 69, 70, 71, 72, 73, 74, 75, 0, 0, 0, 0]), (20, 12, List.replicate 12 0), (20, 12, List.replicate 12 0), (20, 12, List.replicate 12 0), (20, 12, List.replicate 12 0), (20, 12, List.replicate 12 0), (20, 20, List.replicate 20 0), (20, 20, List.replicate 20 0), (20, 20, List.replicate 20 0), (1, 12, [77, 78, 79, 80, 81, 82, 83, 84, 0, 0, 0, 0]), (20, 12, List.replicate 12 0), (20, 12, List.replicate 12 0), (20, 12, List.replicate 12 0), (20, 12, List.replicate 12 0), (20, 12, List.replicate 12 0), (20, 20, List.replicate 20 0), (20, 20, List.replicate 20 0), (20, 20, List.replicate 20 0), (7, 8, [86, 87, 88, 89, 0, 0, 0, 0]), (20, 60, List.replicate 60 0), (20, 20, List.replicate 20 0), (20, 20, List.replicate 20 0), (24, 20, [90, 91, 92, 93, 94, 95, 96, 97, 98, 99, 100, 101, 102, 103, 104, 105, 106, 107, 108, 109]), (20, 4, List.replicate 4 0), (20, 4, List.replicate 4 0), (20, 4, List.replicate 4 0), (20, 4, List.replicate 4 0), (20, 4, List.replicate 4 0), (20, 4, List.replicate 4 0), (20, 4, List.replicate 4 0), (20, 4, List.replicate 4 0), (20, 4, List.replicate 4 0), (20, 4, List.replicate 4 0), (20, 4, List.replicate 4 0), (20, 4, List.replicate 4 0), (20, 4, List.replicate 4 0), (20, 4, List.replicate 4 0), (20, 4, List.replicate 4 0), (20, 4, List.replicate 4 0), (20, 4, List.replicate 4 0), (20, 4, List.replicate 4 0), (20, 4, List.replicate 4 0), (20, 4, List.replicate 4 0), (0, 12, [111, 112, 113, 114, 115, 116, 117, 118, 0, 0, 0, 0]), (20, 23, List.replicate 23 0), (20, 23, List.replicate 23 0), (20, 23, List.replicate 23 0), (20, 23, List.replicate 23 0), (20, 23, List.replicate 23 0), (20, 23, List.replicate 23 0), (20, 12, List.replicate 12 0), (20, 12, List.replicate 12 0), (5, 1, [120]), (20, 12, List.replicate 12 0), (2, 5, [122, 123, 124, 125, 0]), (20, 12, List.replicate 12 0), (20, 12, List.replicate 12 0), (20, 12, List.replicate 12 0), (20, 12, List.replicate 12 0), (8, 7, [127, 128, 129, 130, 131, 132, 0]), (20, 768, List.replicate 768 0), (20, 768, List.replicate 768 0), (20, 768, List.replicate 768 0), (20, 768, List.replicate 768 0), (20, 768, List.replicate 768 0), (20, 12, List.replicate 12 0), (3, 6, [134, 135, 136, 137, 138, 0]), (20, 384, List.replicate 384 0), (20, 384, List.replicate 384 0), (20, 384, List.replicate 384 0), (20, 384, List.replicate 384 0), (20, 384, List.replicate 384 0), (10, 25, [140, 141, 0, 142, 0, 143, 0, 144, 0, 145, 0, 146, 147, 0, 148, 0, 149, 0, 0, 0, 0, 150, 151, 152, 153]), (20, 124, List.replicate 124 0), (20, 744, List.replicate 744 0), (20, 124, List.replicate 124 0), (20, 124, List.replicate 124 0), (20, 80, List.replicate 80 0), (20, 60, List.replicate 60 0), (20, 12, List.replicate 12 0), (20, 12, List.replicate 12 0), (22, 12, List.replicate 12 0), (21, 60, List.replicate 60 0), (20, 4, List.replicate 4 0), (20, 384, List.replicate 384 0), (22, 384, List.replicate 384 0), (20, 768, List.replicate 768 0)]
def zc1x : ZH := ([(9, 10, List.replicate 10 0)], fun _ _ => 0)
def zbx : ZO := zevn 400 4 103 [zR 0] zc1x
def zbm : ZO := zbx.bind fun r => zevn 400 4 152 [zR r.2.1.length] (r.2.1 ++ [(10, 25, List.replicate 25 0)], zzr r.2.2 r.2.1.length 0)
def zbf (a : Nat) (j : Int) : Int := match zbm with
  | some r => r.2.2 a j
  | none => 1
theorem zbx_ok : (match zbx with | some (none, h) => decide (h.1 = SH.take 138) | _ => false) = true := by decide +kernel
theorem zbm_ok : (match zbm with | some (none, h) => decide (h.1 = SH) | _ => false) = true := by decide +kernel
theorem zbf_ok : ([(0, 9), (1, 8), (1, 9), (1, 10), (1, 11), (19, 1), (19, 2), (84, 4), (84, 5), (84, 6), (138, 2), (138, 4), (138, 6), (138, 8), (138, 10), (138, 12), (138, 15), (138, 17), (138, 19), (138, 20), (139, 120), (139, 121), (139, 122), (139, 123)] : List (Nat × Int)).all (fun q => decide (zbf q.1 q.2 = 0)) = true := by decide +kernel
theorem zbf_ok2 : zbf 84 7 = -104 ∧ zbf 138 18 = -104 := by decide +kernel
theorem SH_len : SH.length = 153 := by decide +kernel
theorem SH_tot : ztot SH ≤ 7302250 := by decide +kernel
theorem zbx_some : ∃ M, zbx = some (none, (SH.take 138, M)) := by
  have h := zbx_ok
  split at h
  · next h1 e => exact ⟨h1.2, by rw [e, ← of_decide_eq_true h]⟩
  · cases h
theorem zbm_some : ∃ M, zbm = some (none, (SH, M)) ∧ ∀ a j, M a j = zbf a j := by
  have h := zbm_ok
  split at h
  · next h1 e => exact ⟨h1.2, by rw [e, ← of_decide_eq_true h], fun a j => by unfold zbf; rw [e]⟩
  · cases h
end
