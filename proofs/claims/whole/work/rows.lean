section
-- ===== PART A: goes FIRST, ahead of the names: the tables' words, and 'selects' of the private methods out of them =====
/-- a private method of a class that the tables say can be made, by its rows of tables_1 -/
def lw_okq (q : MethodName × Nat) : Prop := (q.1.cls ≠ "java/lang/invoke/MethodHandle" ∧ q.1.cls ≠ "java/lang/invoke/VarHandle") ∧ Cond.instantiable q.1.cls q.2 ∈ tables_1 ∧ Cond.privateMethod q.1 ∈ tables_1 ∧ Cond.instanceMethod q.1 ∈ tables_1
theorem lw_p0 : lw_okq (⟨"DamOfTurf$Plan", "clear", "()V"⟩, 9) := ⟨⟨by decide +kernel, by decide +kernel⟩, List.mem_of_getElem? (i := 45) (by decide +kernel), List.mem_of_getElem? (i := 301) (by decide +kernel), List.mem_of_getElem? (i := 302) (by decide +kernel)⟩
theorem lw_p1 : lw_okq (⟨"DamOfTurf$Text", "figuresAt", "(I)I"⟩, 4) := ⟨⟨by decide +kernel, by decide +kernel⟩, List.mem_of_getElem? (i := 25) (by decide +kernel), List.mem_of_getElem? (i := 321) (by decide +kernel), List.mem_of_getElem? (i := 322) (by decide +kernel)⟩
theorem lw_p2 : lw_okq (⟨"DamOfTurf$Text", "figureAt", "(I)I"⟩, 4) := ⟨⟨by decide +kernel, by decide +kernel⟩, List.mem_of_getElem? (i := 25) (by decide +kernel), List.mem_of_getElem? (i := 325) (by decide +kernel), List.mem_of_getElem? (i := 326) (by decide +kernel)⟩
theorem lw_p3 : lw_okq (⟨"DamOfTurf$Plan", "takeItem", "(ILDamOfTurf$Text;)Z"⟩, 9) := ⟨⟨by decide +kernel, by decide +kernel⟩, List.mem_of_getElem? (i := 45) (by decide +kernel), List.mem_of_getElem? (i := 334) (by decide +kernel), List.mem_of_getElem? (i := 335) (by decide +kernel)⟩
theorem lw_p4 : lw_okq (⟨"DamOfTurf$Plan", "addCell", "(II)Z"⟩, 9) := ⟨⟨by decide +kernel, by decide +kernel⟩, List.mem_of_getElem? (i := 45) (by decide +kernel), List.mem_of_getElem? (i := 346) (by decide +kernel), List.mem_of_getElem? (i := 347) (by decide +kernel)⟩
theorem lw_p5 : lw_okq (⟨"DamOfTurf$Plan", "setBanks", "(II)Z"⟩, 9) := ⟨⟨by decide +kernel, by decide +kernel⟩, List.mem_of_getElem? (i := 45) (by decide +kernel), List.mem_of_getElem? (i := 356) (by decide +kernel), List.mem_of_getElem? (i := 357) (by decide +kernel)⟩
theorem lw_p6 : lw_okq (⟨"DamOfTurf$Plan", "setLake", "(II)Z"⟩, 9) := ⟨⟨by decide +kernel, by decide +kernel⟩, List.mem_of_getElem? (i := 45) (by decide +kernel), List.mem_of_getElem? (i := 360) (by decide +kernel), List.mem_of_getElem? (i := 361) (by decide +kernel)⟩
theorem lw_p7 : lw_okq (⟨"DamOfTurf$Brook", "flowIn", "(I)I"⟩, 8) := ⟨⟨by decide +kernel, by decide +kernel⟩, List.mem_of_getElem? (i := 51) (by decide +kernel), List.mem_of_getElem? (i := 388) (by decide +kernel), List.mem_of_getElem? (i := 389) (by decide +kernel)⟩
theorem lw_p8 : lw_okq (⟨"DamOfTurf$Brook", "rainIn", "(I)I"⟩, 8) := ⟨⟨by decide +kernel, by decide +kernel⟩, List.mem_of_getElem? (i := 51) (by decide +kernel), List.mem_of_getElem? (i := 392) (by decide +kernel), List.mem_of_getElem? (i := 393) (by decide +kernel)⟩
theorem lw_p9 : lw_okq (⟨"DamOfTurf$Dam", "survey", "()V"⟩, 16) := ⟨⟨by decide +kernel, by decide +kernel⟩, List.mem_of_getElem? (i := 137) (by decide +kernel), List.mem_of_getElem? (i := 412) (by decide +kernel), List.mem_of_getElem? (i := 413) (by decide +kernel)⟩
theorem lw_p10 : lw_okq (⟨"DamOfTurf", "isCell", "(I)Z"⟩, 11) := ⟨⟨by decide +kernel, by decide +kernel⟩, List.mem_of_getElem? (i := 17) (by decide +kernel), List.mem_of_getElem? (i := 500) (by decide +kernel), List.mem_of_getElem? (i := 501) (by decide +kernel)⟩
theorem lw_p11 : lw_okq (⟨"DamOfTurf$Dam", "wears", "(I)Z"⟩, 16) := ⟨⟨by decide +kernel, by decide +kernel⟩, List.mem_of_getElem? (i := 137) (by decide +kernel), List.mem_of_getElem? (i := 626) (by decide +kernel), List.mem_of_getElem? (i := 627) (by decide +kernel)⟩
theorem lw_p12 : lw_okq (⟨"DamOfTurf", "findBestShares", "(III)I"⟩, 11) := ⟨⟨by decide +kernel, by decide +kernel⟩, List.mem_of_getElem? (i := 17) (by decide +kernel), List.mem_of_getElem? (i := 697) (by decide +kernel), List.mem_of_getElem? (i := 698) (by decide +kernel)⟩
theorem lw_p13 : lw_okq (⟨"DamOfTurf", "waterWithShares", "(II)I"⟩, 11) := ⟨⟨by decide +kernel, by decide +kernel⟩, List.mem_of_getElem? (i := 17) (by decide +kernel), List.mem_of_getElem? (i := 706) (by decide +kernel), List.mem_of_getElem? (i := 707) (by decide +kernel)⟩
theorem lw_p14 : lw_okq (⟨"DamOfTurf", "isGap", "(III)Z"⟩, 11) := ⟨⟨by decide +kernel, by decide +kernel⟩, List.mem_of_getElem? (i := 17) (by decide +kernel), List.mem_of_getElem? (i := 726) (by decide +kernel), List.mem_of_getElem? (i := 727) (by decide +kernel)⟩
theorem lw_p15 : lw_okq (⟨"DamOfTurf$Crew", "wayCount", "()I"⟩, 6) := ⟨⟨by decide +kernel, by decide +kernel⟩, List.mem_of_getElem? (i := 82) (by decide +kernel), List.mem_of_getElem? (i := 752) (by decide +kernel), List.mem_of_getElem? (i := 753) (by decide +kernel)⟩
def lw_privs_1 : List (MethodName × Nat) := [(⟨"DamOfTurf$Plan", "clear", "()V"⟩, 9), (⟨"DamOfTurf$Text", "figuresAt", "(I)I"⟩, 4), (⟨"DamOfTurf$Text", "figureAt", "(I)I"⟩, 4), (⟨"DamOfTurf$Plan", "takeItem", "(ILDamOfTurf$Text;)Z"⟩, 9), (⟨"DamOfTurf$Plan", "addCell", "(II)Z"⟩, 9), (⟨"DamOfTurf$Plan", "setBanks", "(II)Z"⟩, 9), (⟨"DamOfTurf$Plan", "setLake", "(II)Z"⟩, 9), (⟨"DamOfTurf$Brook", "flowIn", "(I)I"⟩, 8), (⟨"DamOfTurf$Brook", "rainIn", "(I)I"⟩, 8), (⟨"DamOfTurf$Dam", "survey", "()V"⟩, 16), (⟨"DamOfTurf", "isCell", "(I)Z"⟩, 11), (⟨"DamOfTurf$Dam", "wears", "(I)Z"⟩, 16), (⟨"DamOfTurf", "findBestShares", "(III)I"⟩, 11), (⟨"DamOfTurf", "waterWithShares", "(II)I"⟩, 11), (⟨"DamOfTurf", "isGap", "(III)Z"⟩, 11), (⟨"DamOfTurf$Crew", "wayCount", "()I"⟩, 6)]
theorem lw_r1 : ∀ q ∈ lw_privs_1, lw_okq q := List.forall_mem_cons.mpr ⟨lw_p0, List.forall_mem_cons.mpr ⟨lw_p1, List.forall_mem_cons.mpr ⟨lw_p2, List.forall_mem_cons.mpr ⟨lw_p3, List.forall_mem_cons.mpr ⟨lw_p4, List.forall_mem_cons.mpr ⟨lw_p5, List.forall_mem_cons.mpr ⟨lw_p6, List.forall_mem_cons.mpr ⟨lw_p7, List.forall_mem_cons.mpr ⟨lw_p8, List.forall_mem_cons.mpr ⟨lw_p9, List.forall_mem_cons.mpr ⟨lw_p10, List.forall_mem_cons.mpr ⟨lw_p11, List.forall_mem_cons.mpr ⟨lw_p12, List.forall_mem_cons.mpr ⟨lw_p13, List.forall_mem_cons.mpr ⟨lw_p14, List.forall_mem_cons.mpr ⟨lw_p15, fun _ h => absurd h List.not_mem_nil⟩⟩⟩⟩⟩⟩⟩⟩⟩⟩⟩⟩⟩⟩⟩⟩
theorem lw_p16 : lw_okq (⟨"DamOfTurf$Crew", "minutesFor", "(II)I"⟩, 6) := ⟨⟨by decide +kernel, by decide +kernel⟩, List.mem_of_getElem? (i := 82) (by decide +kernel), List.mem_of_getElem? (i := 764) (by decide +kernel), List.mem_of_getElem? (i := 765) (by decide +kernel)⟩
theorem lw_p17 : lw_okq (⟨"DamOfTurf", "letOut", "(IIZ)I"⟩, 11) := ⟨⟨by decide +kernel, by decide +kernel⟩, List.mem_of_getElem? (i := 17) (by decide +kernel), List.mem_of_getElem? (i := 775) (by decide +kernel), List.mem_of_getElem? (i := 776) (by decide +kernel)⟩
theorem lw_p18 : lw_okq (⟨"DamOfTurf", "holdsIn", "(III)Z"⟩, 11) := ⟨⟨by decide +kernel, by decide +kernel⟩, List.mem_of_getElem? (i := 17) (by decide +kernel), List.mem_of_getElem? (i := 833) (by decide +kernel), List.mem_of_getElem? (i := 834) (by decide +kernel)⟩
theorem lw_p19 : lw_okq (⟨"DamOfTurfModel", "noDam", "(I)V"⟩, 48) := ⟨⟨by decide +kernel, by decide +kernel⟩, List.mem_of_getElem? (i := 875) (by decide +kernel), List.mem_of_getElem? (i := 881) (by decide +kernel), List.mem_of_getElem? (i := 882) (by decide +kernel)⟩
theorem lw_p20 : lw_okq (⟨"DamOfTurfModel", "begin", "()V"⟩, 48) := ⟨⟨by decide +kernel, by decide +kernel⟩, List.mem_of_getElem? (i := 875) (by decide +kernel), List.mem_of_getElem? (i := 885) (by decide +kernel), List.mem_of_getElem? (i := 886) (by decide +kernel)⟩
theorem lw_p21 : lw_okq (⟨"DamOfTurfModel", "beginBut", "(II)V"⟩, 48) := ⟨⟨by decide +kernel, by decide +kernel⟩, List.mem_of_getElem? (i := 875) (by decide +kernel), List.mem_of_getElem? (i := 889) (by decide +kernel), List.mem_of_getElem? (i := 890) (by decide +kernel)⟩
theorem lw_p22 : lw_okq (⟨"DamOfTurfModel", "canDo", "(II)Z"⟩, 48) := ⟨⟨by decide +kernel, by decide +kernel⟩, List.mem_of_getElem? (i := 875) (by decide +kernel), List.mem_of_getElem? (i := 893) (by decide +kernel), List.mem_of_getElem? (i := 894) (by decide +kernel)⟩
theorem lw_p23 : lw_okq (⟨"DamOfTurfModel", "doAct", "(II)V"⟩, 48) := ⟨⟨by decide +kernel, by decide +kernel⟩, List.mem_of_getElem? (i := 875) (by decide +kernel), List.mem_of_getElem? (i := 897) (by decide +kernel), List.mem_of_getElem? (i := 898) (by decide +kernel)⟩
theorem lw_p24 : lw_okq (⟨"DamOfTurfModel", "go", "(II)V"⟩, 48) := ⟨⟨by decide +kernel, by decide +kernel⟩, List.mem_of_getElem? (i := 875) (by decide +kernel), List.mem_of_getElem? (i := 901) (by decide +kernel), List.mem_of_getElem? (i := 902) (by decide +kernel)⟩
theorem lw_p25 : lw_okq (⟨"DamOfTurfModel", "comesIn", "(I)I"⟩, 48) := ⟨⟨by decide +kernel, by decide +kernel⟩, List.mem_of_getElem? (i := 875) (by decide +kernel), List.mem_of_getElem? (i := 905) (by decide +kernel), List.mem_of_getElem? (i := 906) (by decide +kernel)⟩
theorem lw_p26 : lw_okq (⟨"DamOfTurfModel", "levelOf", "(I)I"⟩, 48) := ⟨⟨by decide +kernel, by decide +kernel⟩, List.mem_of_getElem? (i := 875) (by decide +kernel), List.mem_of_getElem? (i := 912) (by decide +kernel), List.mem_of_getElem? (i := 913) (by decide +kernel)⟩
theorem lw_p27 : lw_okq (⟨"DamOfTurfModel", "takes", "(I)I"⟩, 48) := ⟨⟨by decide +kernel, by decide +kernel⟩, List.mem_of_getElem? (i := 875) (by decide +kernel), List.mem_of_getElem? (i := 916) (by decide +kernel), List.mem_of_getElem? (i := 917) (by decide +kernel)⟩
theorem lw_p28 : lw_okq (⟨"DamOfTurfModel", "edgeOf", "(I)I"⟩, 48) := ⟨⟨by decide +kernel, by decide +kernel⟩, List.mem_of_getElem? (i := 875) (by decide +kernel), List.mem_of_getElem? (i := 920) (by decide +kernel), List.mem_of_getElem? (i := 921) (by decide +kernel)⟩
theorem lw_p29 : lw_okq (⟨"DamOfTurfModel", "placeOf", "(I)I"⟩, 48) := ⟨⟨by decide +kernel, by decide +kernel⟩, List.mem_of_getElem? (i := 875) (by decide +kernel), List.mem_of_getElem? (i := 924) (by decide +kernel), List.mem_of_getElem? (i := 925) (by decide +kernel)⟩
theorem lw_p30 : lw_okq (⟨"DamOfTurfModel", "wear", "(II)V"⟩, 48) := ⟨⟨by decide +kernel, by decide +kernel⟩, List.mem_of_getElem? (i := 875) (by decide +kernel), List.mem_of_getElem? (i := 928) (by decide +kernel), List.mem_of_getElem? (i := 929) (by decide +kernel)⟩
theorem lw_p31 : lw_okq (⟨"DamOfTurfModel", "readAll", "()I"⟩, 48) := ⟨⟨by decide +kernel, by decide +kernel⟩, List.mem_of_getElem? (i := 875) (by decide +kernel), List.mem_of_getElem? (i := 1091) (by decide +kernel), List.mem_of_getElem? (i := 1092) (by decide +kernel)⟩
def lw_privs_2 : List (MethodName × Nat) := [(⟨"DamOfTurf$Crew", "minutesFor", "(II)I"⟩, 6), (⟨"DamOfTurf", "letOut", "(IIZ)I"⟩, 11), (⟨"DamOfTurf", "holdsIn", "(III)Z"⟩, 11), (⟨"DamOfTurfModel", "noDam", "(I)V"⟩, 48), (⟨"DamOfTurfModel", "begin", "()V"⟩, 48), (⟨"DamOfTurfModel", "beginBut", "(II)V"⟩, 48), (⟨"DamOfTurfModel", "canDo", "(II)Z"⟩, 48), (⟨"DamOfTurfModel", "doAct", "(II)V"⟩, 48), (⟨"DamOfTurfModel", "go", "(II)V"⟩, 48), (⟨"DamOfTurfModel", "comesIn", "(I)I"⟩, 48), (⟨"DamOfTurfModel", "levelOf", "(I)I"⟩, 48), (⟨"DamOfTurfModel", "takes", "(I)I"⟩, 48), (⟨"DamOfTurfModel", "edgeOf", "(I)I"⟩, 48), (⟨"DamOfTurfModel", "placeOf", "(I)I"⟩, 48), (⟨"DamOfTurfModel", "wear", "(II)V"⟩, 48), (⟨"DamOfTurfModel", "readAll", "()I"⟩, 48)]
theorem lw_r2 : ∀ q ∈ lw_privs_2, lw_okq q := List.forall_mem_cons.mpr ⟨lw_p16, List.forall_mem_cons.mpr ⟨lw_p17, List.forall_mem_cons.mpr ⟨lw_p18, List.forall_mem_cons.mpr ⟨lw_p19, List.forall_mem_cons.mpr ⟨lw_p20, List.forall_mem_cons.mpr ⟨lw_p21, List.forall_mem_cons.mpr ⟨lw_p22, List.forall_mem_cons.mpr ⟨lw_p23, List.forall_mem_cons.mpr ⟨lw_p24, List.forall_mem_cons.mpr ⟨lw_p25, List.forall_mem_cons.mpr ⟨lw_p26, List.forall_mem_cons.mpr ⟨lw_p27, List.forall_mem_cons.mpr ⟨lw_p28, List.forall_mem_cons.mpr ⟨lw_p29, List.forall_mem_cons.mpr ⟨lw_p30, List.forall_mem_cons.mpr ⟨lw_p31, fun _ h => absurd h List.not_mem_nil⟩⟩⟩⟩⟩⟩⟩⟩⟩⟩⟩⟩⟩⟩⟩⟩
theorem lw_p32 : lw_okq (⟨"DamOfTurfModel", "item", "()Z"⟩, 48) := ⟨⟨by decide +kernel, by decide +kernel⟩, List.mem_of_getElem? (i := 875) (by decide +kernel), List.mem_of_getElem? (i := 1095) (by decide +kernel), List.mem_of_getElem? (i := 1096) (by decide +kernel)⟩
theorem lw_p33 : lw_okq (⟨"DamOfTurfModel", "letterAt", "(I)I"⟩, 48) := ⟨⟨by decide +kernel, by decide +kernel⟩, List.mem_of_getElem? (i := 875) (by decide +kernel), List.mem_of_getElem? (i := 1099) (by decide +kernel), List.mem_of_getElem? (i := 1100) (by decide +kernel)⟩
theorem lw_p34 : lw_okq (⟨"DamOfTurfModel", "cellItem", "()Z"⟩, 48) := ⟨⟨by decide +kernel, by decide +kernel⟩, List.mem_of_getElem? (i := 875) (by decide +kernel), List.mem_of_getElem? (i := 1103) (by decide +kernel), List.mem_of_getElem? (i := 1104) (by decide +kernel)⟩
theorem lw_p35 : lw_okq (⟨"DamOfTurfModel", "figures", "(I)Z"⟩, 48) := ⟨⟨by decide +kernel, by decide +kernel⟩, List.mem_of_getElem? (i := 875) (by decide +kernel), List.mem_of_getElem? (i := 1107) (by decide +kernel), List.mem_of_getElem? (i := 1108) (by decide +kernel)⟩
theorem lw_p36 : lw_okq (⟨"DamOfTurfModel", "flowItem", "()Z"⟩, 48) := ⟨⟨by decide +kernel, by decide +kernel⟩, List.mem_of_getElem? (i := 875) (by decide +kernel), List.mem_of_getElem? (i := 1115) (by decide +kernel), List.mem_of_getElem? (i := 1116) (by decide +kernel)⟩
theorem lw_p37 : lw_okq (⟨"DamOfTurfModel", "rainItem", "()Z"⟩, 48) := ⟨⟨by decide +kernel, by decide +kernel⟩, List.mem_of_getElem? (i := 875) (by decide +kernel), List.mem_of_getElem? (i := 1119) (by decide +kernel), List.mem_of_getElem? (i := 1120) (by decide +kernel)⟩
theorem lw_p38 : lw_okq (⟨"DamOfTurfModel", "childItem", "()Z"⟩, 48) := ⟨⟨by decide +kernel, by decide +kernel⟩, List.mem_of_getElem? (i := 875) (by decide +kernel), List.mem_of_getElem? (i := 1123) (by decide +kernel), List.mem_of_getElem? (i := 1124) (by decide +kernel)⟩
theorem lw_p39 : lw_okq (⟨"DamOfTurfModel", "jobItem", "()Z"⟩, 48) := ⟨⟨by decide +kernel, by decide +kernel⟩, List.mem_of_getElem? (i := 875) (by decide +kernel), List.mem_of_getElem? (i := 1127) (by decide +kernel), List.mem_of_getElem? (i := 1128) (by decide +kernel)⟩
theorem lw_p40 : lw_okq (⟨"DamOfTurfModel", "isCell", "(I)Z"⟩, 48) := ⟨⟨by decide +kernel, by decide +kernel⟩, List.mem_of_getElem? (i := 875) (by decide +kernel), List.mem_of_getElem? (i := 1140) (by decide +kernel), List.mem_of_getElem? (i := 1141) (by decide +kernel)⟩
theorem lw_p41 : lw_okq (⟨"DamOfTurfModel", "note", "(IIII)V"⟩, 48) := ⟨⟨by decide +kernel, by decide +kernel⟩, List.mem_of_getElem? (i := 875) (by decide +kernel), List.mem_of_getElem? (i := 1163) (by decide +kernel), List.mem_of_getElem? (i := 1164) (by decide +kernel)⟩
theorem lw_p42 : lw_okq (⟨"DamOfTurfModel", "goOn", "(I)V"⟩, 48) := ⟨⟨by decide +kernel, by decide +kernel⟩, List.mem_of_getElem? (i := 875) (by decide +kernel), List.mem_of_getElem? (i := 1188) (by decide +kernel), List.mem_of_getElem? (i := 1189) (by decide +kernel)⟩
theorem lw_p43 : lw_okq (⟨"DamOfTurfModel", "tryIt", "()V"⟩, 48) := ⟨⟨by decide +kernel, by decide +kernel⟩, List.mem_of_getElem? (i := 875) (by decide +kernel), List.mem_of_getElem? (i := 1192) (by decide +kernel), List.mem_of_getElem? (i := 1193) (by decide +kernel)⟩
theorem lw_p44 : lw_okq (⟨"DamOfTurfModel", "goneFrom", "()I"⟩, 48) := ⟨⟨by decide +kernel, by decide +kernel⟩, List.mem_of_getElem? (i := 875) (by decide +kernel), List.mem_of_getElem? (i := 1208) (by decide +kernel), List.mem_of_getElem? (i := 1209) (by decide +kernel)⟩
theorem lw_p45 : lw_okq (⟨"DamOfTurfModel", "layRow", "(I)Z"⟩, 48) := ⟨⟨by decide +kernel, by decide +kernel⟩, List.mem_of_getElem? (i := 875) (by decide +kernel), List.mem_of_getElem? (i := 1217) (by decide +kernel), List.mem_of_getElem? (i := 1218) (by decide +kernel)⟩
theorem lw_p46 : lw_okq (⟨"DamOfTurfModel", "nextRow", "()Z"⟩, 48) := ⟨⟨by decide +kernel, by decide +kernel⟩, List.mem_of_getElem? (i := 875) (by decide +kernel), List.mem_of_getElem? (i := 1221) (by decide +kernel), List.mem_of_getElem? (i := 1222) (by decide +kernel)⟩
theorem lw_p47 : lw_okq (⟨"DamOfTurfModel", "isGap", "(III)Z"⟩, 48) := ⟨⟨by decide +kernel, by decide +kernel⟩, List.mem_of_getElem? (i := 875) (by decide +kernel), List.mem_of_getElem? (i := 1229) (by decide +kernel), List.mem_of_getElem? (i := 1230) (by decide +kernel)⟩
def lw_privs_3 : List (MethodName × Nat) := [(⟨"DamOfTurfModel", "item", "()Z"⟩, 48), (⟨"DamOfTurfModel", "letterAt", "(I)I"⟩, 48), (⟨"DamOfTurfModel", "cellItem", "()Z"⟩, 48), (⟨"DamOfTurfModel", "figures", "(I)Z"⟩, 48), (⟨"DamOfTurfModel", "flowItem", "()Z"⟩, 48), (⟨"DamOfTurfModel", "rainItem", "()Z"⟩, 48), (⟨"DamOfTurfModel", "childItem", "()Z"⟩, 48), (⟨"DamOfTurfModel", "jobItem", "()Z"⟩, 48), (⟨"DamOfTurfModel", "isCell", "(I)Z"⟩, 48), (⟨"DamOfTurfModel", "note", "(IIII)V"⟩, 48), (⟨"DamOfTurfModel", "goOn", "(I)V"⟩, 48), (⟨"DamOfTurfModel", "tryIt", "()V"⟩, 48), (⟨"DamOfTurfModel", "goneFrom", "()I"⟩, 48), (⟨"DamOfTurfModel", "layRow", "(I)Z"⟩, 48), (⟨"DamOfTurfModel", "nextRow", "()Z"⟩, 48), (⟨"DamOfTurfModel", "isGap", "(III)Z"⟩, 48)]
theorem lw_r3 : ∀ q ∈ lw_privs_3, lw_okq q := List.forall_mem_cons.mpr ⟨lw_p32, List.forall_mem_cons.mpr ⟨lw_p33, List.forall_mem_cons.mpr ⟨lw_p34, List.forall_mem_cons.mpr ⟨lw_p35, List.forall_mem_cons.mpr ⟨lw_p36, List.forall_mem_cons.mpr ⟨lw_p37, List.forall_mem_cons.mpr ⟨lw_p38, List.forall_mem_cons.mpr ⟨lw_p39, List.forall_mem_cons.mpr ⟨lw_p40, List.forall_mem_cons.mpr ⟨lw_p41, List.forall_mem_cons.mpr ⟨lw_p42, List.forall_mem_cons.mpr ⟨lw_p43, List.forall_mem_cons.mpr ⟨lw_p44, List.forall_mem_cons.mpr ⟨lw_p45, List.forall_mem_cons.mpr ⟨lw_p46, List.forall_mem_cons.mpr ⟨lw_p47, fun _ h => absurd h List.not_mem_nil⟩⟩⟩⟩⟩⟩⟩⟩⟩⟩⟩⟩⟩⟩⟩⟩
theorem lw_p48 : lw_okq (⟨"DamOfTurfModel", "timeOf", "(I)I"⟩, 48) := ⟨⟨by decide +kernel, by decide +kernel⟩, List.mem_of_getElem? (i := 875) (by decide +kernel), List.mem_of_getElem? (i := 1238) (by decide +kernel), List.mem_of_getElem? (i := 1239) (by decide +kernel)⟩
theorem lw_p49 : lw_okq (⟨"DamOfTurfModel", "isSlow", "(III)Z"⟩, 48) := ⟨⟨by decide +kernel, by decide +kernel⟩, List.mem_of_getElem? (i := 875) (by decide +kernel), List.mem_of_getElem? (i := 1247) (by decide +kernel), List.mem_of_getElem? (i := 1248) (by decide +kernel)⟩
theorem lw_p50 : lw_okq (⟨"DamOfTurfModel", "breaches", "(I)I"⟩, 48) := ⟨⟨by decide +kernel, by decide +kernel⟩, List.mem_of_getElem? (i := 875) (by decide +kernel), List.mem_of_getElem? (i := 1264) (by decide +kernel), List.mem_of_getElem? (i := 1265) (by decide +kernel)⟩
theorem lw_p51 : lw_okq (⟨"DamOfTurfModel", "holds", "(III)Z"⟩, 48) := ⟨⟨by decide +kernel, by decide +kernel⟩, List.mem_of_getElem? (i := 875) (by decide +kernel), List.mem_of_getElem? (i := 1286) (by decide +kernel), List.mem_of_getElem? (i := 1287) (by decide +kernel)⟩
theorem lw_p52 : lw_okq (⟨"DamOfTurfModel", "copy", "(II)V"⟩, 48) := ⟨⟨by decide +kernel, by decide +kernel⟩, List.mem_of_getElem? (i := 875) (by decide +kernel), List.mem_of_getElem? (i := 1303) (by decide +kernel), List.mem_of_getElem? (i := 1304) (by decide +kernel)⟩
def lw_privs_4 : List (MethodName × Nat) := [(⟨"DamOfTurfModel", "timeOf", "(I)I"⟩, 48), (⟨"DamOfTurfModel", "isSlow", "(III)Z"⟩, 48), (⟨"DamOfTurfModel", "breaches", "(I)I"⟩, 48), (⟨"DamOfTurfModel", "holds", "(III)Z"⟩, 48), (⟨"DamOfTurfModel", "copy", "(II)V"⟩, 48)]
theorem lw_r4 : ∀ q ∈ lw_privs_4, lw_okq q := List.forall_mem_cons.mpr ⟨lw_p48, List.forall_mem_cons.mpr ⟨lw_p49, List.forall_mem_cons.mpr ⟨lw_p50, List.forall_mem_cons.mpr ⟨lw_p51, List.forall_mem_cons.mpr ⟨lw_p52, fun _ h => absurd h List.not_mem_nil⟩⟩⟩⟩⟩
def lw_privs : List (MethodName × Nat) := lw_privs_1 ++ (lw_privs_2 ++ (lw_privs_3 ++ (lw_privs_4)))
def lw_tbl : List Cond := k2_sels lw_privs ++ tables_1
theorem lw_privs_ok : ∀ q ∈ lw_privs, lw_okq q := by
  show ∀ q ∈ lw_privs_1 ++ (lw_privs_2 ++ (lw_privs_3 ++ (lw_privs_4))), lw_okq q
  exact List.forall_mem_append.mpr ⟨lw_r1, List.forall_mem_append.mpr ⟨lw_r2, List.forall_mem_append.mpr ⟨lw_r3, lw_r4⟩⟩⟩
end
section
/-! ===== BEGIN printed: names, fields, word lists, decode rows ===== -/
def RX0 : String := "DamOfTurf$Acts"
def TX0 : u_T := fun k => match k with
  | 0 => ("DamOfTurf$Acts", "kinds", "[I", true)
  | 1 => ("DamOfTurf$Acts", "places", "[I", true)
  | 2 => ("DamOfTurf$Acts", "stuffs", "[I", true)
  | 3 => ("DamOfTurf$Acts", "amounts", "[I", true)
  | _ => ("DamOfTurf$Acts", "length", "I", false)
def tyX0 : Nat → FieldType := fun k => match k with
  | 0 => .array .int
  | 1 => .array .int
  | 2 => .array .int
  | 3 => .array .int
  | _ => .int
abbrev wsX00 : List Cond := u_ws RX0 TX0 5
theorem nmX0 : ∀ a, a < 5 → ∀ b, b < 5 → a ≠ b → (TX0 a).2.1 ≠ (TX0 b).2.1 := by decide +kernel
theorem tyX0_ok : ∀ k, k < 5 → parseFieldDescriptor (TX0 k).2.2.1 = some (tyX0 k) := by decide +kernel
abbrev cX0_init : ByteArray := prog_2_method_1_code
def yX0_init : MethodName := ⟨RX0, "<init>", "()V"⟩
abbrev cX0_size : ByteArray := prog_2_method_2_code
def yX0_size : MethodName := ⟨RX0, "size", "()I"⟩
abbrev cX0_clear : ByteArray := prog_2_method_3_code
def yX0_clear : MethodName := ⟨RX0, "clear", "()V"⟩
abbrev cX0_add : ByteArray := prog_2_method_4_code
def yX0_add : MethodName := ⟨RX0, "add", "(IIII)Z"⟩
abbrev cX0_dropLast : ByteArray := prog_2_method_5_code
def yX0_dropLast : MethodName := ⟨RX0, "dropLast", "()V"⟩
abbrev cX0_copyFrom : ByteArray := prog_2_method_6_code
def yX0_copyFrom : MethodName := ⟨RX0, "copyFrom", "(LDamOfTurf$Acts;)V"⟩
abbrev cX0_doAllBut : ByteArray := prog_2_method_7_code
def yX0_doAllBut : MethodName := ⟨RX0, "doAllBut", "(ILDamOfTurf$Dam;)V"⟩
abbrev cX0_doOne : ByteArray := prog_2_method_8_code
def yX0_doOne : MethodName := ⟨RX0, "doOne", "(IIIILDamOfTurf$Dam;)V"⟩
def RX1 : String := "DamOfTurf$Brook"
def TX1 : u_T := fun k => match k with
  | 0 => ("DamOfTurf$Brook", "flowFrom", "[I", true)
  | 1 => ("DamOfTurf$Brook", "flowUnits", "[I", true)
  | 2 => ("DamOfTurf$Brook", "flowCount", "I", false)
  | 3 => ("DamOfTurf$Brook", "rainFrom", "[I", true)
  | 4 => ("DamOfTurf$Brook", "rainTo", "[I", true)
  | 5 => ("DamOfTurf$Brook", "rainUnits", "[I", true)
  | 6 => ("DamOfTurf$Brook", "rainCount", "I", false)
  | _ => ("DamOfTurf$Brook", "byMinute", "[I", true)
def tyX1 : Nat → FieldType := fun k => match k with
  | 0 => .array .int
  | 1 => .array .int
  | 2 => .int
  | 3 => .array .int
  | 4 => .array .int
  | 5 => .array .int
  | 6 => .int
  | _ => .array .int
abbrev wsX10 : List Cond := u_ws RX1 TX1 8
theorem nmX1 : ∀ a, a < 8 → ∀ b, b < 8 → a ≠ b → (TX1 a).2.1 ≠ (TX1 b).2.1 := by decide +kernel
theorem tyX1_ok : ∀ k, k < 8 → parseFieldDescriptor (TX1 k).2.2.1 = some (tyX1 k) := by decide +kernel
abbrev cX1_init : ByteArray := prog_3_method_1_code
def yX1_init : MethodName := ⟨RX1, "<init>", "()V"⟩
abbrev cX1_clear : ByteArray := prog_3_method_2_code
def yX1_clear : MethodName := ⟨RX1, "clear", "()V"⟩
abbrev cX1_addFlow : ByteArray := prog_3_method_3_code
def yX1_addFlow : MethodName := ⟨RX1, "addFlow", "(II)Z"⟩
abbrev cX1_addRain : ByteArray := prog_3_method_4_code
def yX1_addRain : MethodName := ⟨RX1, "addRain", "(III)Z"⟩
abbrev cX1_settle : ByteArray := prog_3_method_5_code
def yX1_settle : MethodName := ⟨RX1, "settle", "()V"⟩
abbrev cX1_flowIn : ByteArray := prog_3_method_6_code
def yX1_flowIn : MethodName := ⟨RX1, "flowIn", "(I)I"⟩
abbrev cX1_rainIn : ByteArray := prog_3_method_7_code
def yX1_rainIn : MethodName := ⟨RX1, "rainIn", "(I)I"⟩
abbrev cX1_comesIn : ByteArray := prog_3_method_8_code
def yX1_comesIn : MethodName := ⟨RX1, "comesIn", "(I)I"⟩
def RX2 : String := "DamOfTurf$Crew"
def TX2 : u_T := fun k => match k with
  | 0 => ("DamOfTurf$Crew", "lays", "[[I", true)
  | 1 => ("DamOfTurf$Crew", "children", "I", false)
  | 2 => ("DamOfTurf$Crew", "jobStuff", "[I", true)
  | 3 => ("DamOfTurf$Crew", "jobInches", "[I", true)
  | 4 => ("DamOfTurf$Crew", "jobs", "I", false)
  | _ => ("DamOfTurf$Crew", "busy", "[I", true)
def tyX2 : Nat → FieldType := fun k => match k with
  | 0 => .array (.array .int)
  | 1 => .int
  | 2 => .array .int
  | 3 => .array .int
  | 4 => .int
  | _ => .array .int
abbrev wsX20 : List Cond := u_ws RX2 TX2 6
theorem nmX2 : ∀ a, a < 6 → ∀ b, b < 6 → a ≠ b → (TX2 a).2.1 ≠ (TX2 b).2.1 := by decide +kernel
theorem tyX2_ok : ∀ k, k < 6 → parseFieldDescriptor (TX2 k).2.2.1 = some (tyX2 k) := by decide +kernel
abbrev cX2_init : ByteArray := prog_4_method_1_code
def yX2_init : MethodName := ⟨RX2, "<init>", "()V"⟩
abbrev cX2_clear : ByteArray := prog_4_method_2_code
def yX2_clear : MethodName := ⟨RX2, "clear", "()V"⟩
abbrev cX2_addChild : ByteArray := prog_4_method_3_code
def yX2_addChild : MethodName := ⟨RX2, "addChild", "(LDamOfTurf$Text;)Z"⟩
abbrev cX2_addJob : ByteArray := prog_4_method_4_code
def yX2_addJob : MethodName := ⟨RX2, "addJob", "(II)Z"⟩
abbrev cX2_childCount : ByteArray := prog_4_method_5_code
def yX2_childCount : MethodName := ⟨RX2, "childCount", "()I"⟩
abbrev cX2_jobCount : ByteArray := prog_4_method_6_code
def yX2_jobCount : MethodName := ⟨RX2, "jobCount", "()I"⟩
abbrev cX2_quickestWay : ByteArray := prog_4_method_7_code
def yX2_quickestWay : MethodName := ⟨RX2, "quickestWay", "()I"⟩
abbrev cX2_wayCount : ByteArray := prog_4_method_8_code
def yX2_wayCount : MethodName := ⟨RX2, "wayCount", "()I"⟩
abbrev cX2_whoDoes : ByteArray := prog_4_method_9_code
def yX2_whoDoes : MethodName := ⟨RX2, "whoDoes", "(II)I"⟩
abbrev cX2_minutesBy : ByteArray := prog_4_method_10_code
def yX2_minutesBy : MethodName := ⟨RX2, "minutesBy", "(I)I"⟩
abbrev cX2_minutesFor : ByteArray := prog_4_method_11_code
def yX2_minutesFor : MethodName := ⟨RX2, "minutesFor", "(II)I"⟩
def RX3 : String := "DamOfTurf$Dam"
def TX3 : u_T := fun k => match k with
  | 0 => ("DamOfTurf$Dam", "plan", "LDamOfTurf$Plan;", true)
  | 1 => ("DamOfTurf$Dam", "heights", "[I", true)
  | 2 => ("DamOfTurf$Dam", "stuffs", "[I", true)
  | 3 => ("DamOfTurf$Dam", "breaches", "[I", true)
  | 4 => ("DamOfTurf$Dam", "units", "I", false)
  | 5 => ("DamOfTurf$Dam", "minutes", "I", false)
  | 6 => ("DamOfTurf$Dam", "wentOver", "I", false)
  | 7 => ("DamOfTurf$Dam", "seeped", "I", false)
  | 8 => ("DamOfTurf$Dam", "edge", "I", false)
  | 9 => ("DamOfTurf$Dam", "place", "I", false)
  | 10 => ("DamOfTurf$Dam", "edgeTakes", "I", false)
  | 11 => ("DamOfTurf$Dam", "turfs", "I", false)
  | 12 => ("DamOfTurf$Dam", "stones", "I", false)
  | 13 => ("DamOfTurf$Dam", "overNow", "I", false)
  | 14 => ("DamOfTurf$Dam", "overAt", "I", false)
  | _ => ("DamOfTurf$Dam", "breachedNow", "I", false)
def tyX3 : Nat → FieldType := fun k => match k with
  | 0 => .object "DamOfTurf$Plan"
  | 1 => .array .int
  | 2 => .array .int
  | 3 => .array .int
  | 4 => .int
  | 5 => .int
  | 6 => .int
  | 7 => .int
  | 8 => .int
  | 9 => .int
  | 10 => .int
  | 11 => .int
  | 12 => .int
  | 13 => .int
  | 14 => .int
  | _ => .int
abbrev wsX30 : List Cond := u_ws RX3 TX3 16
theorem nmX3 : ∀ a, a < 16 → ∀ b, b < 16 → a ≠ b → (TX3 a).2.1 ≠ (TX3 b).2.1 := by decide +kernel
theorem tyX3_ok : ∀ k, k < 16 → parseFieldDescriptor (TX3 k).2.2.1 = some (tyX3 k) := by decide +kernel
abbrev cX3_init : ByteArray := prog_5_method_1_code
def yX3_init : MethodName := ⟨RX3, "<init>", "(LDamOfTurf$Plan;)V"⟩
abbrev cX3_startAnew : ByteArray := prog_5_method_2_code
def yX3_startAnew : MethodName := ⟨RX3, "startAnew", "()V"⟩
abbrev cX3_copyFrom : ByteArray := prog_5_method_3_code
def yX3_copyFrom : MethodName := ⟨RX3, "copyFrom", "(LDamOfTurf$Dam;)V"⟩
abbrev cX3_survey : ByteArray := prog_5_method_4_code
def yX3_survey : MethodName := ⟨RX3, "survey", "()V"⟩
abbrev cX3_oneMinute : ByteArray := prog_5_method_5_code
def yX3_oneMinute : MethodName := ⟨RX3, "oneMinute", "(I)V"⟩
abbrev cX3_wears : ByteArray := prog_5_method_6_code
def yX3_wears : MethodName := ⟨RX3, "wears", "(I)Z"⟩
abbrev cX3_letPass : ByteArray := prog_5_method_7_code
def yX3_letPass : MethodName := ⟨RX3, "letPass", "(II)V"⟩
abbrev cX3_passTillOver : ByteArray := prog_5_method_8_code
def yX3_passTillOver : MethodName := ⟨RX3, "passTillOver", "()I"⟩
abbrev cX3_passTillBreach : ByteArray := prog_5_method_9_code
def yX3_passTillBreach : MethodName := ⟨RX3, "passTillBreach", "()I"⟩
abbrev cX3_canRaise : ByteArray := prog_5_method_10_code
def yX3_canRaise : MethodName := ⟨RX3, "canRaise", "(II)Z"⟩
abbrev cX3_canDig : ByteArray := prog_5_method_11_code
def yX3_canDig : MethodName := ⟨RX3, "canDig", "(II)Z"⟩
abbrev cX3_canPass : ByteArray := prog_5_method_12_code
def yX3_canPass : MethodName := ⟨RX3, "canPass", "(I)Z"⟩
abbrev cX3_layAt : ByteArray := prog_5_method_13_code
def yX3_layAt : MethodName := ⟨RX3, "layAt", "(III)V"⟩
abbrev cX3_digAt : ByteArray := prog_5_method_14_code
def yX3_digAt : MethodName := ⟨RX3, "digAt", "(II)V"⟩
abbrev cX3_remake : ByteArray := prog_5_method_15_code
def yX3_remake : MethodName := ⟨RX3, "remake", "(III)V"⟩
abbrev cX3_empty : ByteArray := prog_5_method_16_code
def yX3_empty : MethodName := ⟨RX3, "empty", "()V"⟩
abbrev cX3_heightAt : ByteArray := prog_5_method_17_code
def yX3_heightAt : MethodName := ⟨RX3, "heightAt", "(I)I"⟩
abbrev cX3_stuffAt : ByteArray := prog_5_method_18_code
def yX3_stuffAt : MethodName := ⟨RX3, "stuffAt", "(I)I"⟩
abbrev cX3_breachesAt : ByteArray := prog_5_method_19_code
def yX3_breachesAt : MethodName := ⟨RX3, "breachesAt", "(I)I"⟩
abbrev cX3_allBreaches : ByteArray := prog_5_method_20_code
def yX3_allBreaches : MethodName := ⟨RX3, "allBreaches", "()I"⟩
abbrev cX3_wasBreached : ByteArray := prog_5_method_21_code
def yX3_wasBreached : MethodName := ⟨RX3, "wasBreached", "()Z"⟩
abbrev cX3_level : ByteArray := prog_5_method_22_code
def yX3_level : MethodName := ⟨RX3, "level", "()I"⟩
abbrev cX3_units : ByteArray := prog_5_method_23_code
def yX3_units : MethodName := ⟨RX3, "units", "()I"⟩
abbrev cX3_minutesGone : ByteArray := prog_5_method_24_code
def yX3_minutesGone : MethodName := ⟨RX3, "minutesGone", "()I"⟩
abbrev cX3_allOver : ByteArray := prog_5_method_25_code
def yX3_allOver : MethodName := ⟨RX3, "allOver", "()I"⟩
abbrev cX3_allSeeped : ByteArray := prog_5_method_26_code
def yX3_allSeeped : MethodName := ⟨RX3, "allSeeped", "()I"⟩
abbrev cX3_edgeHeight : ByteArray := prog_5_method_27_code
def yX3_edgeHeight : MethodName := ⟨RX3, "edgeHeight", "()I"⟩
abbrev cX3_lowestPlace : ByteArray := prog_5_method_28_code
def yX3_lowestPlace : MethodName := ⟨RX3, "lowestPlace", "()I"⟩
abbrev cX3_overInMinute : ByteArray := prog_5_method_29_code
def yX3_overInMinute : MethodName := ⟨RX3, "overInMinute", "()I"⟩
abbrev cX3_placeOver : ByteArray := prog_5_method_30_code
def yX3_placeOver : MethodName := ⟨RX3, "placeOver", "()I"⟩
abbrev cX3_breachedCell : ByteArray := prog_5_method_31_code
def yX3_breachedCell : MethodName := ⟨RX3, "breachedCell", "()I"⟩
def RX4 : String := "DamOfTurf$Plan"
def TX4 : u_T := fun k => match k with
  | 0 => ("DamOfTurf$Plan", "heights", "[I", true)
  | 1 => ("DamOfTurf$Plan", "stuffs", "[I", true)
  | 2 => ("DamOfTurf$Plan", "cells", "I", false)
  | 3 => ("DamOfTurf$Plan", "leftBank", "I", false)
  | 4 => ("DamOfTurf$Plan", "rightBank", "I", false)
  | 5 => ("DamOfTurf$Plan", "inch", "I", false)
  | 6 => ("DamOfTurf$Plan", "inchMore", "I", false)
  | 7 => ("DamOfTurf$Plan", "brook", "LDamOfTurf$Brook;", true)
  | _ => ("DamOfTurf$Plan", "crew", "LDamOfTurf$Crew;", true)
def tyX4 : Nat → FieldType := fun k => match k with
  | 0 => .array .int
  | 1 => .array .int
  | 2 => .int
  | 3 => .int
  | 4 => .int
  | 5 => .int
  | 6 => .int
  | 7 => .object "DamOfTurf$Brook"
  | _ => .object "DamOfTurf$Crew"
abbrev wsX40 : List Cond := u_ws RX4 TX4 9
theorem nmX4 : ∀ a, a < 9 → ∀ b, b < 9 → a ≠ b → (TX4 a).2.1 ≠ (TX4 b).2.1 := by decide +kernel
theorem tyX4_ok : ∀ k, k < 9 → parseFieldDescriptor (TX4 k).2.2.1 = some (tyX4 k) := by decide +kernel
abbrev cX4_init : ByteArray := prog_6_method_1_code
def yX4_init : MethodName := ⟨RX4, "<init>", "()V"⟩
abbrev cX4_readFrom : ByteArray := prog_6_method_2_code
def yX4_readFrom : MethodName := ⟨RX4, "readFrom", "(LDamOfTurf$Text;)I"⟩
abbrev cX4_clear : ByteArray := prog_6_method_3_code
def yX4_clear : MethodName := ⟨RX4, "clear", "()V"⟩
abbrev cX4_takeItem : ByteArray := prog_6_method_4_code
def yX4_takeItem : MethodName := ⟨RX4, "takeItem", "(ILDamOfTurf$Text;)Z"⟩
abbrev cX4_addCell : ByteArray := prog_6_method_5_code
def yX4_addCell : MethodName := ⟨RX4, "addCell", "(II)Z"⟩
abbrev cX4_setBanks : ByteArray := prog_6_method_6_code
def yX4_setBanks : MethodName := ⟨RX4, "setBanks", "(II)Z"⟩
abbrev cX4_setLake : ByteArray := prog_6_method_7_code
def yX4_setLake : MethodName := ⟨RX4, "setLake", "(II)Z"⟩
abbrev cX4_cellCount : ByteArray := prog_6_method_8_code
def yX4_cellCount : MethodName := ⟨RX4, "cellCount", "()I"⟩
abbrev cX4_firstHeight : ByteArray := prog_6_method_9_code
def yX4_firstHeight : MethodName := ⟨RX4, "firstHeight", "(I)I"⟩
abbrev cX4_firstStuff : ByteArray := prog_6_method_10_code
def yX4_firstStuff : MethodName := ⟨RX4, "firstStuff", "(I)I"⟩
abbrev cX4_left : ByteArray := prog_6_method_11_code
def yX4_left : MethodName := ⟨RX4, "left", "()I"⟩
abbrev cX4_right : ByteArray := prog_6_method_12_code
def yX4_right : MethodName := ⟨RX4, "right", "()I"⟩
abbrev cX4_brook : ByteArray := prog_6_method_13_code
def yX4_brook : MethodName := ⟨RX4, "brook", "()LDamOfTurf$Brook;"⟩
abbrev cX4_crew : ByteArray := prog_6_method_14_code
def yX4_crew : MethodName := ⟨RX4, "crew", "()LDamOfTurf$Crew;"⟩
abbrev cX4_takes : ByteArray := prog_6_method_15_code
def yX4_takes : MethodName := ⟨RX4, "takes", "(I)I"⟩
abbrev cX4_levelOf : ByteArray := prog_6_method_16_code
def yX4_levelOf : MethodName := ⟨RX4, "levelOf", "(I)I"⟩
def RX5 : String := "DamOfTurf$Shares"
def TX5 : u_T := fun k => match k with
  | 0 => ("DamOfTurf$Shares", "inches", "[I", true)
  | _ => ("DamOfTurf$Shares", "cells", "I", false)
def tyX5 : Nat → FieldType := fun k => match k with
  | 0 => .array .int
  | _ => .int
abbrev wsX50 : List Cond := u_ws RX5 TX5 2
theorem nmX5 : ∀ a, a < 2 → ∀ b, b < 2 → a ≠ b → (TX5 a).2.1 ≠ (TX5 b).2.1 := by decide +kernel
theorem tyX5_ok : ∀ k, k < 2 → parseFieldDescriptor (TX5 k).2.2.1 = some (tyX5 k) := by decide +kernel
abbrev cX5_init : ByteArray := prog_7_method_1_code
def yX5_init : MethodName := ⟨RX5, "<init>", "()V"⟩
abbrev cX5_start : ByteArray := prog_7_method_2_code
def yX5_start : MethodName := ⟨RX5, "start", "(II)V"⟩
abbrev cX5_next : ByteArray := prog_7_method_3_code
def yX5_next : MethodName := ⟨RX5, "next", "()Z"⟩
abbrev cX5_inchesAt : ByteArray := prog_7_method_4_code
def yX5_inchesAt : MethodName := ⟨RX5, "inchesAt", "(I)I"⟩
abbrev cX5_copyFrom : ByteArray := prog_7_method_5_code
def yX5_copyFrom : MethodName := ⟨RX5, "copyFrom", "(LDamOfTurf$Shares;)V"⟩
def RX6 : String := "DamOfTurf$Sightings"
def TX6 : u_T := fun k => match k with
  | 0 => ("DamOfTurf$Sightings", "levels", "[I", true)
  | 1 => ("DamOfTurf$Sightings", "times", "[I", true)
  | _ => ("DamOfTurf$Sightings", "length", "I", false)
def tyX6 : Nat → FieldType := fun k => match k with
  | 0 => .array .int
  | 1 => .array .int
  | _ => .int
abbrev wsX60 : List Cond := u_ws RX6 TX6 3
theorem nmX6 : ∀ a, a < 3 → ∀ b, b < 3 → a ≠ b → (TX6 a).2.1 ≠ (TX6 b).2.1 := by decide +kernel
theorem tyX6_ok : ∀ k, k < 3 → parseFieldDescriptor (TX6 k).2.2.1 = some (tyX6 k) := by decide +kernel
abbrev cX6_init : ByteArray := prog_8_method_1_code
def yX6_init : MethodName := ⟨RX6, "<init>", "()V"⟩
abbrev cX6_size : ByteArray := prog_8_method_2_code
def yX6_size : MethodName := ⟨RX6, "size", "()I"⟩
abbrev cX6_clear : ByteArray := prog_8_method_3_code
def yX6_clear : MethodName := ⟨RX6, "clear", "()V"⟩
abbrev cX6_add : ByteArray := prog_8_method_4_code
def yX6_add : MethodName := ⟨RX6, "add", "(II)Z"⟩
abbrev cX6_agreeWith : ByteArray := prog_8_method_5_code
def yX6_agreeWith : MethodName := ⟨RX6, "agreeWith", "(ILDamOfTurf$Plan;)Z"⟩
def RX7 : String := "DamOfTurf$Text"
def TX7 : u_T := fun k => match k with
  | 0 => ("DamOfTurf$Text", "letters", "[I", true)
  | 1 => ("DamOfTurf$Text", "length", "I", false)
  | 2 => ("DamOfTurf$Text", "numbers", "[I", true)
  | _ => ("DamOfTurf$Text", "howMany", "I", false)
def tyX7 : Nat → FieldType := fun k => match k with
  | 0 => .array .int
  | 1 => .int
  | 2 => .array .int
  | _ => .int
abbrev wsX70 : List Cond := u_ws RX7 TX7 4
theorem nmX7 : ∀ a, a < 4 → ∀ b, b < 4 → a ≠ b → (TX7 a).2.1 ≠ (TX7 b).2.1 := by decide +kernel
theorem tyX7_ok : ∀ k, k < 4 → parseFieldDescriptor (TX7 k).2.2.1 = some (tyX7 k) := by decide +kernel
abbrev cX7_init : ByteArray := prog_9_method_1_code
def yX7_init : MethodName := ⟨RX7, "<init>", "()V"⟩
abbrev cX7_size : ByteArray := prog_9_method_2_code
def yX7_size : MethodName := ⟨RX7, "size", "()I"⟩
abbrev cX7_clear : ByteArray := prog_9_method_3_code
def yX7_clear : MethodName := ⟨RX7, "clear", "()V"⟩
abbrev cX7_add : ByteArray := prog_9_method_4_code
def yX7_add : MethodName := ⟨RX7, "add", "(I)Z"⟩
abbrev cX7_letterAt : ByteArray := prog_9_method_5_code
def yX7_letterAt : MethodName := ⟨RX7, "letterAt", "(I)I"⟩
abbrev cX7_numberCount : ByteArray := prog_9_method_6_code
def yX7_numberCount : MethodName := ⟨RX7, "numberCount", "()I"⟩
abbrev cX7_numberAt : ByteArray := prog_9_method_7_code
def yX7_numberAt : MethodName := ⟨RX7, "numberAt", "(I)I"⟩
abbrev cX7_readItem : ByteArray := prog_9_method_8_code
def yX7_readItem : MethodName := ⟨RX7, "readItem", "(I)I"⟩
abbrev cX7_figuresAt : ByteArray := prog_9_method_9_code
def yX7_figuresAt : MethodName := ⟨RX7, "figuresAt", "(I)I"⟩
abbrev cX7_figureAt : ByteArray := prog_9_method_10_code
def yX7_figureAt : MethodName := ⟨RX7, "figureAt", "(I)I"⟩
def RX8 : String := "DamOfTurf"
def TX8 : u_T := fun k => match k with
  | 0 => ("DamOfTurf", "text", "LDamOfTurf$Text;", true)
  | 1 => ("DamOfTurf", "plan", "LDamOfTurf$Plan;", true)
  | 2 => ("DamOfTurf", "draft", "LDamOfTurf$Plan;", true)
  | 3 => ("DamOfTurf", "now", "LDamOfTurf$Dam;", true)
  | 4 => ("DamOfTurf", "trial", "LDamOfTurf$Dam;", true)
  | 5 => ("DamOfTurf", "acts", "LDamOfTurf$Acts;", true)
  | 6 => ("DamOfTurf", "kept", "[LDamOfTurf$Acts;", true)
  | 7 => ("DamOfTurf", "keptCount", "I", false)
  | 8 => ("DamOfTurf", "sightings", "LDamOfTurf$Sightings;", true)
  | 9 => ("DamOfTurf", "shares", "LDamOfTurf$Shares;", true)
  | _ => ("DamOfTurf", "bestShares", "LDamOfTurf$Shares;", true)
def tyX8 : Nat → FieldType := fun k => match k with
  | 0 => .object "DamOfTurf$Text"
  | 1 => .object "DamOfTurf$Plan"
  | 2 => .object "DamOfTurf$Plan"
  | 3 => .object "DamOfTurf$Dam"
  | 4 => .object "DamOfTurf$Dam"
  | 5 => .object "DamOfTurf$Acts"
  | 6 => .array (.object "DamOfTurf$Acts")
  | 7 => .int
  | 8 => .object "DamOfTurf$Sightings"
  | 9 => .object "DamOfTurf$Shares"
  | _ => .object "DamOfTurf$Shares"
abbrev wsX80 : List Cond := u_ws RX8 TX8 11
theorem nmX8 : ∀ a, a < 11 → ∀ b, b < 11 → a ≠ b → (TX8 a).2.1 ≠ (TX8 b).2.1 := by decide +kernel
theorem tyX8_ok : ∀ k, k < 11 → parseFieldDescriptor (TX8 k).2.2.1 = some (tyX8 k) := by decide +kernel
abbrev cX8_init : ByteArray := prog_1_method_1_code
def yX8_init : MethodName := ⟨RX8, "<init>", "()V"⟩
abbrev cX8_write : ByteArray := prog_1_method_2_code
def yX8_write : MethodName := ⟨RX8, "write", "(I)I"⟩
abbrev cX8_wipe : ByteArray := prog_1_method_3_code
def yX8_wipe : MethodName := ⟨RX8, "wipe", "()I"⟩
abbrev cX8_fault : ByteArray := prog_1_method_4_code
def yX8_fault : MethodName := ⟨RX8, "fault", "()I"⟩
abbrev cX8_laid : ByteArray := prog_1_method_5_code
def yX8_laid : MethodName := ⟨RX8, "laid", "()I"⟩
abbrev cX8_cell : ByteArray := prog_1_method_6_code
def yX8_cell : MethodName := ⟨RX8, "cell", "(II)I"⟩
abbrev cX8_lake : ByteArray := prog_1_method_7_code
def yX8_lake : MethodName := ⟨RX8, "lake", "(I)I"⟩
abbrev cX8_edge : ByteArray := prog_1_method_8_code
def yX8_edge : MethodName := ⟨RX8, "edge", "(I)I"⟩
abbrev cX8_comes : ByteArray := prog_1_method_9_code
def yX8_comes : MethodName := ⟨RX8, "comes", "(I)I"⟩
abbrev cX8_put : ByteArray := prog_1_method_10_code
def yX8_put : MethodName := ⟨RX8, "put", "(III)I"⟩
abbrev cX8_dig : ByteArray := prog_1_method_11_code
def yX8_dig : MethodName := ⟨RX8, "dig", "(II)I"⟩
abbrev cX8_pass : ByteArray := prog_1_method_12_code
def yX8_pass : MethodName := ⟨RX8, "pass", "(I)I"⟩
abbrev cX8_undo : ByteArray := prog_1_method_13_code
def yX8_undo : MethodName := ⟨RX8, "undo", "()I"⟩
abbrev cX8_behind : ByteArray := prog_1_method_14_code
def yX8_behind : MethodName := ⟨RX8, "behind", "(II)I"⟩
abbrev cX8_worn : ByteArray := prog_1_method_15_code
def yX8_worn : MethodName := ⟨RX8, "worn", "(II)I"⟩
abbrev cX8_over : ByteArray := prog_1_method_16_code
def yX8_over : MethodName := ⟨RX8, "over", "(I)I"⟩
abbrev cX8_gone : ByteArray := prog_1_method_17_code
def yX8_gone : MethodName := ⟨RX8, "gone", "(I)I"⟩
abbrev cX8_best : ByteArray := prog_1_method_18_code
def yX8_best : MethodName := ⟨RX8, "best", "(IIII)I"⟩
abbrev cX8_findBestShares : ByteArray := prog_1_method_19_code
def yX8_findBestShares : MethodName := ⟨RX8, "findBestShares", "(III)I"⟩
abbrev cX8_waterWithShares : ByteArray := prog_1_method_20_code
def yX8_waterWithShares : MethodName := ⟨RX8, "waterWithShares", "(II)I"⟩
abbrev cX8_gap : ByteArray := prog_1_method_21_code
def yX8_gap : MethodName := ⟨RX8, "gap", "(II)I"⟩
abbrev cX8_isGap : ByteArray := prog_1_method_22_code
def yX8_isGap : MethodName := ⟨RX8, "isGap", "(III)Z"⟩
abbrev cX8_together : ByteArray := prog_1_method_23_code
def yX8_together : MethodName := ⟨RX8, "together", "(I)I"⟩
abbrev cX8_slow : ByteArray := prog_1_method_24_code
def yX8_slow : MethodName := ⟨RX8, "slow", "(III)I"⟩
abbrev cX8_letOut : ByteArray := prog_1_method_25_code
def yX8_letOut : MethodName := ⟨RX8, "letOut", "(IIZ)I"⟩
abbrev cX8_fill : ByteArray := prog_1_method_26_code
def yX8_fill : MethodName := ⟨RX8, "fill", "(I)I"⟩
abbrev cX8_trodden : ByteArray := prog_1_method_27_code
def yX8_trodden : MethodName := ⟨RX8, "trodden", "(II)I"⟩
abbrev cX8_blame : ByteArray := prog_1_method_28_code
def yX8_blame : MethodName := ⟨RX8, "blame", "()I"⟩
abbrev cX8_seen : ByteArray := prog_1_method_29_code
def yX8_seen : MethodName := ⟨RX8, "seen", "(II)I"⟩
abbrev cX8_forget : ByteArray := prog_1_method_30_code
def yX8_forget : MethodName := ⟨RX8, "forget", "()I"⟩
abbrev cX8_flows : ByteArray := prog_1_method_31_code
def yX8_flows : MethodName := ⟨RX8, "flows", "()I"⟩
abbrev cX8_odds : ByteArray := prog_1_method_32_code
def yX8_odds : MethodName := ⟨RX8, "odds", "(IIII)I"⟩
abbrev cX8_holdsIn : ByteArray := prog_1_method_33_code
def yX8_holdsIn : MethodName := ⟨RX8, "holdsIn", "(III)Z"⟩
abbrev cX8_chanceOf : ByteArray := prog_1_method_34_code
def yX8_chanceOf : MethodName := ⟨RX8, "chanceOf", "(III)I"⟩
abbrev cX8_greatestDivisor : ByteArray := prog_1_method_35_code
def yX8_greatestDivisor : MethodName := ⟨RX8, "greatestDivisor", "(II)I"⟩
abbrev cX8_night : ByteArray := prog_1_method_36_code
def yX8_night : MethodName := ⟨RX8, "night", "(II)I"⟩
abbrev cX8_drawOf : ByteArray := prog_1_method_37_code
def yX8_drawOf : MethodName := ⟨RX8, "drawOf", "(II)I"⟩
abbrev cX8_keep : ByteArray := prog_1_method_38_code
def yX8_keep : MethodName := ⟨RX8, "keep", "()I"⟩
abbrev cX8_back : ByteArray := prog_1_method_39_code
def yX8_back : MethodName := ⟨RX8, "back", "()I"⟩
abbrev cX8_count : ByteArray := prog_1_method_40_code
def yX8_count : MethodName := ⟨RX8, "count", "(I)I"⟩
abbrev cX8_isCell : ByteArray := prog_1_method_41_code
def yX8_isCell : MethodName := ⟨RX8, "isCell", "(I)Z"⟩
abbrev cX8_isStuff : ByteArray := prog_1_method_42_code
def yX8_isStuff : MethodName := ⟨RX8, "isStuff", "(I)Z"⟩
abbrev cX8_isWithin : ByteArray := prog_1_method_43_code
def yX8_isWithin : MethodName := ⟨RX8, "isWithin", "(III)Z"⟩
def RX9 : String := "DamOfTurfModel"
def TX9 : u_T := fun k => match k with
  | 0 => ("DamOfTurfModel", "length", "I", false)
  | 1 => ("DamOfTurfModel", "text", "[I", true)
  | 2 => ("DamOfTurfModel", "cells", "[I", true)
  | 3 => ("DamOfTurfModel", "tall", "[I", true)
  | 4 => ("DamOfTurfModel", "stuffs", "[I", true)
  | 5 => ("DamOfTurfModel", "banks", "[I", true)
  | 6 => ("DamOfTurfModel", "basin", "[I", true)
  | 7 => ("DamOfTurfModel", "flows", "[I", true)
  | 8 => ("DamOfTurfModel", "flowFrom", "[I", true)
  | 9 => ("DamOfTurfModel", "flowBy", "[I", true)
  | 10 => ("DamOfTurfModel", "rains", "[I", true)
  | 11 => ("DamOfTurfModel", "rainFrom", "[I", true)
  | 12 => ("DamOfTurfModel", "rainTo", "[I", true)
  | 13 => ("DamOfTurfModel", "rainBy", "[I", true)
  | 14 => ("DamOfTurfModel", "children", "[I", true)
  | 15 => ("DamOfTurfModel", "lays", "[I", true)
  | 16 => ("DamOfTurfModel", "jobs", "[I", true)
  | 17 => ("DamOfTurfModel", "jobCell", "[I", true)
  | 18 => ("DamOfTurfModel", "jobStuff", "[I", true)
  | 19 => ("DamOfTurfModel", "jobInches", "[I", true)
  | 20 => ("DamOfTurfModel", "acts", "[I", true)
  | 21 => ("DamOfTurfModel", "actKind", "[I", true)
  | 22 => ("DamOfTurfModel", "actCell", "[I", true)
  | 23 => ("DamOfTurfModel", "actStuff", "[I", true)
  | 24 => ("DamOfTurfModel", "actMany", "[I", true)
  | 25 => ("DamOfTurfModel", "keptMany", "I", false)
  | 26 => ("DamOfTurfModel", "seenMany", "I", false)
  | 27 => ("DamOfTurfModel", "seenLevel", "[I", true)
  | 28 => ("DamOfTurfModel", "seenBy", "[I", true)
  | 29 => ("DamOfTurfModel", "spot", "I", false)
  | 30 => ("DamOfTurfModel", "told", "[I", true)
  | 31 => ("DamOfTurfModel", "high", "[I", true)
  | 32 => ("DamOfTurfModel", "of", "[I", true)
  | 33 => ("DamOfTurfModel", "breached", "[I", true)
  | 34 => ("DamOfTurfModel", "water", "[I", true)
  | 35 => ("DamOfTurfModel", "minutes", "[I", true)
  | 36 => ("DamOfTurfModel", "overAll", "[I", true)
  | 37 => ("DamOfTurfModel", "seepAll", "[I", true)
  | 38 => ("DamOfTurfModel", "went", "I", false)
  | 39 => ("DamOfTurfModel", "wentAt", "I", false)
  | 40 => ("DamOfTurfModel", "broke", "I", false)
  | 41 => ("DamOfTurfModel", "brokeAt", "I", false)
  | 42 => ("DamOfTurfModel", "row", "[I", true)
  | 43 => ("DamOfTurfModel", "bestRow", "[I", true)
  | 44 => ("DamOfTurfModel", "busy", "[I", true)
  | 45 => ("DamOfTurfModel", "doer", "[I", true)
  | 46 => ("DamOfTurfModel", "bestDoer", "[I", true)
  | _ => ("DamOfTurfModel", "emptyIn", "I", false)
def tyX9 : Nat → FieldType := fun k => match k with
  | 0 => .int
  | 1 => .array .int
  | 2 => .array .int
  | 3 => .array .int
  | 4 => .array .int
  | 5 => .array .int
  | 6 => .array .int
  | 7 => .array .int
  | 8 => .array .int
  | 9 => .array .int
  | 10 => .array .int
  | 11 => .array .int
  | 12 => .array .int
  | 13 => .array .int
  | 14 => .array .int
  | 15 => .array .int
  | 16 => .array .int
  | 17 => .array .int
  | 18 => .array .int
  | 19 => .array .int
  | 20 => .array .int
  | 21 => .array .int
  | 22 => .array .int
  | 23 => .array .int
  | 24 => .array .int
  | 25 => .int
  | 26 => .int
  | 27 => .array .int
  | 28 => .array .int
  | 29 => .int
  | 30 => .array .int
  | 31 => .array .int
  | 32 => .array .int
  | 33 => .array .int
  | 34 => .array .int
  | 35 => .array .int
  | 36 => .array .int
  | 37 => .array .int
  | 38 => .int
  | 39 => .int
  | 40 => .int
  | 41 => .int
  | 42 => .array .int
  | 43 => .array .int
  | 44 => .array .int
  | 45 => .array .int
  | 46 => .array .int
  | _ => .int
abbrev wsX90 : List Cond := u_ws RX9 TX9 48
theorem nmX9 : ∀ a, a < 48 → ∀ b, b < 48 → a ≠ b → (TX9 a).2.1 ≠ (TX9 b).2.1 := by decide +kernel
theorem tyX9_ok : ∀ k, k < 48 → parseFieldDescriptor (TX9 k).2.2.1 = some (tyX9 k) := by decide +kernel
abbrev cX9_init : ByteArray := prog_11_method_1_code
def yX9_init : MethodName := ⟨RX9, "<init>", "()V"⟩
abbrev cX9_in : ByteArray := prog_11_method_2_code
def yX9_in : MethodName := ⟨RX9, "in", "(JJJ)Z"⟩
abbrev cX9_noDam : ByteArray := prog_11_method_3_code
def yX9_noDam : MethodName := ⟨RX9, "noDam", "(I)V"⟩
abbrev cX9_write : ByteArray := prog_11_method_4_code
def yX9_write : MethodName := ⟨RX9, "write", "(I)I"⟩
abbrev cX9_wipe : ByteArray := prog_11_method_5_code
def yX9_wipe : MethodName := ⟨RX9, "wipe", "()I"⟩
abbrev cX9_letterAt : ByteArray := prog_11_method_6_code
def yX9_letterAt : MethodName := ⟨RX9, "letterAt", "(I)I"⟩
abbrev cX9_figures : ByteArray := prog_11_method_7_code
def yX9_figures : MethodName := ⟨RX9, "figures", "(I)Z"⟩
abbrev cX9_cellItem : ByteArray := prog_11_method_8_code
def yX9_cellItem : MethodName := ⟨RX9, "cellItem", "()Z"⟩
abbrev cX9_flowItem : ByteArray := prog_11_method_9_code
def yX9_flowItem : MethodName := ⟨RX9, "flowItem", "()Z"⟩
abbrev cX9_rainItem : ByteArray := prog_11_method_10_code
def yX9_rainItem : MethodName := ⟨RX9, "rainItem", "()Z"⟩
abbrev cX9_childItem : ByteArray := prog_11_method_11_code
def yX9_childItem : MethodName := ⟨RX9, "childItem", "()Z"⟩
abbrev cX9_jobItem : ByteArray := prog_11_method_12_code
def yX9_jobItem : MethodName := ⟨RX9, "jobItem", "()Z"⟩
abbrev cX9_item : ByteArray := prog_11_method_13_code
def yX9_item : MethodName := ⟨RX9, "item", "()Z"⟩
abbrev cX9_readAll : ByteArray := prog_11_method_14_code
def yX9_readAll : MethodName := ⟨RX9, "readAll", "()I"⟩
abbrev cX9_fault : ByteArray := prog_11_method_15_code
def yX9_fault : MethodName := ⟨RX9, "fault", "()I"⟩
abbrev cX9_laid : ByteArray := prog_11_method_16_code
def yX9_laid : MethodName := ⟨RX9, "laid", "()I"⟩
abbrev cX9_isCell : ByteArray := prog_11_method_17_code
def yX9_isCell : MethodName := ⟨RX9, "isCell", "(I)Z"⟩
abbrev cX9_takes : ByteArray := prog_11_method_18_code
def yX9_takes : MethodName := ⟨RX9, "takes", "(I)I"⟩
abbrev cX9_levelOf : ByteArray := prog_11_method_19_code
def yX9_levelOf : MethodName := ⟨RX9, "levelOf", "(I)I"⟩
abbrev cX9_comesIn : ByteArray := prog_11_method_20_code
def yX9_comesIn : MethodName := ⟨RX9, "comesIn", "(I)I"⟩
abbrev cX9_edgeOf : ByteArray := prog_11_method_21_code
def yX9_edgeOf : MethodName := ⟨RX9, "edgeOf", "(I)I"⟩
abbrev cX9_placeOf : ByteArray := prog_11_method_22_code
def yX9_placeOf : MethodName := ⟨RX9, "placeOf", "(I)I"⟩
abbrev cX9_wear : ByteArray := prog_11_method_23_code
def yX9_wear : MethodName := ⟨RX9, "wear", "(II)V"⟩
abbrev cX9_go : ByteArray := prog_11_method_24_code
def yX9_go : MethodName := ⟨RX9, "go", "(II)V"⟩
abbrev cX9_canDo : ByteArray := prog_11_method_25_code
def yX9_canDo : MethodName := ⟨RX9, "canDo", "(II)Z"⟩
abbrev cX9_doAct : ByteArray := prog_11_method_26_code
def yX9_doAct : MethodName := ⟨RX9, "doAct", "(II)V"⟩
abbrev cX9_beginBut : ByteArray := prog_11_method_27_code
def yX9_beginBut : MethodName := ⟨RX9, "beginBut", "(II)V"⟩
abbrev cX9_begin : ByteArray := prog_11_method_28_code
def yX9_begin : MethodName := ⟨RX9, "begin", "()V"⟩
abbrev cX9_tryIt : ByteArray := prog_11_method_29_code
def yX9_tryIt : MethodName := ⟨RX9, "tryIt", "()V"⟩
abbrev cX9_cell : ByteArray := prog_11_method_30_code
def yX9_cell : MethodName := ⟨RX9, "cell", "(II)I"⟩
abbrev cX9_lake : ByteArray := prog_11_method_31_code
def yX9_lake : MethodName := ⟨RX9, "lake", "(I)I"⟩
abbrev cX9_edge : ByteArray := prog_11_method_32_code
def yX9_edge : MethodName := ⟨RX9, "edge", "(I)I"⟩
abbrev cX9_comes : ByteArray := prog_11_method_33_code
def yX9_comes : MethodName := ⟨RX9, "comes", "(I)I"⟩
abbrev cX9_note : ByteArray := prog_11_method_34_code
def yX9_note : MethodName := ⟨RX9, "note", "(IIII)V"⟩
abbrev cX9_put : ByteArray := prog_11_method_35_code
def yX9_put : MethodName := ⟨RX9, "put", "(III)I"⟩
abbrev cX9_dig : ByteArray := prog_11_method_36_code
def yX9_dig : MethodName := ⟨RX9, "dig", "(II)I"⟩
abbrev cX9_pass : ByteArray := prog_11_method_37_code
def yX9_pass : MethodName := ⟨RX9, "pass", "(I)I"⟩
abbrev cX9_undo : ByteArray := prog_11_method_38_code
def yX9_undo : MethodName := ⟨RX9, "undo", "()I"⟩
abbrev cX9_areMinutes : ByteArray := prog_11_method_39_code
def yX9_areMinutes : MethodName := ⟨RX9, "areMinutes", "(I)Z"⟩
abbrev cX9_goOn : ByteArray := prog_11_method_40_code
def yX9_goOn : MethodName := ⟨RX9, "goOn", "(I)V"⟩
abbrev cX9_behind : ByteArray := prog_11_method_41_code
def yX9_behind : MethodName := ⟨RX9, "behind", "(II)I"⟩
abbrev cX9_worn : ByteArray := prog_11_method_42_code
def yX9_worn : MethodName := ⟨RX9, "worn", "(II)I"⟩
abbrev cX9_over : ByteArray := prog_11_method_43_code
def yX9_over : MethodName := ⟨RX9, "over", "(I)I"⟩
abbrev cX9_goneFrom : ByteArray := prog_11_method_44_code
def yX9_goneFrom : MethodName := ⟨RX9, "goneFrom", "()I"⟩
abbrev cX9_gone : ByteArray := prog_11_method_45_code
def yX9_gone : MethodName := ⟨RX9, "gone", "(I)I"⟩
abbrev cX9_nextRow : ByteArray := prog_11_method_46_code
def yX9_nextRow : MethodName := ⟨RX9, "nextRow", "()Z"⟩
abbrev cX9_layRow : ByteArray := prog_11_method_47_code
def yX9_layRow : MethodName := ⟨RX9, "layRow", "(I)Z"⟩
abbrev cX9_best : ByteArray := prog_11_method_48_code
def yX9_best : MethodName := ⟨RX9, "best", "(IIII)I"⟩
abbrev cX9_isGap : ByteArray := prog_11_method_49_code
def yX9_isGap : MethodName := ⟨RX9, "isGap", "(III)Z"⟩
abbrev cX9_gap : ByteArray := prog_11_method_50_code
def yX9_gap : MethodName := ⟨RX9, "gap", "(II)I"⟩
abbrev cX9_timeOf : ByteArray := prog_11_method_51_code
def yX9_timeOf : MethodName := ⟨RX9, "timeOf", "(I)I"⟩
abbrev cX9_together : ByteArray := prog_11_method_52_code
def yX9_together : MethodName := ⟨RX9, "together", "(I)I"⟩
abbrev cX9_isSlow : ByteArray := prog_11_method_53_code
def yX9_isSlow : MethodName := ⟨RX9, "isSlow", "(III)Z"⟩
abbrev cX9_slow : ByteArray := prog_11_method_54_code
def yX9_slow : MethodName := ⟨RX9, "slow", "(III)I"⟩
abbrev cX9_fill : ByteArray := prog_11_method_55_code
def yX9_fill : MethodName := ⟨RX9, "fill", "(I)I"⟩
abbrev cX9_trodden : ByteArray := prog_11_method_56_code
def yX9_trodden : MethodName := ⟨RX9, "trodden", "(II)I"⟩
abbrev cX9_breaches : ByteArray := prog_11_method_57_code
def yX9_breaches : MethodName := ⟨RX9, "breaches", "(I)I"⟩
abbrev cX9_blame : ByteArray := prog_11_method_58_code
def yX9_blame : MethodName := ⟨RX9, "blame", "()I"⟩
abbrev cX9_seen : ByteArray := prog_11_method_59_code
def yX9_seen : MethodName := ⟨RX9, "seen", "(II)I"⟩
abbrev cX9_forget : ByteArray := prog_11_method_60_code
def yX9_forget : MethodName := ⟨RX9, "forget", "()I"⟩
abbrev cX9_flows : ByteArray := prog_11_method_61_code
def yX9_flows : MethodName := ⟨RX9, "flows", "()I"⟩
abbrev cX9_holds : ByteArray := prog_11_method_62_code
def yX9_holds : MethodName := ⟨RX9, "holds", "(III)Z"⟩
abbrev cX9_odds : ByteArray := prog_11_method_63_code
def yX9_odds : MethodName := ⟨RX9, "odds", "(IIII)I"⟩
abbrev cX9_night : ByteArray := prog_11_method_64_code
def yX9_night : MethodName := ⟨RX9, "night", "(II)I"⟩
abbrev cX9_copy : ByteArray := prog_11_method_65_code
def yX9_copy : MethodName := ⟨RX9, "copy", "(II)V"⟩
abbrev cX9_keep : ByteArray := prog_11_method_66_code
def yX9_keep : MethodName := ⟨RX9, "keep", "()I"⟩
abbrev cX9_back : ByteArray := prog_11_method_67_code
def yX9_back : MethodName := ⟨RX9, "back", "()I"⟩
abbrev cX9_count : ByteArray := prog_11_method_68_code
def yX9_count : MethodName := ⟨RX9, "count", "(I)I"⟩
def RJ9 : String := "java/lang/Math"
def TJ9 : u_T := fun k => match k with
  | _ => ("", "", "", false)
def tyJ9 : Nat → FieldType := fun k => match k with
  | _ => .int
abbrev wsJ90 : List Cond := u_ws RJ9 TJ9 0
theorem nmJ9 : ∀ a, a < 0 → ∀ b, b < 0 → a ≠ b → (TJ9 a).2.1 ≠ (TJ9 b).2.1 := by decide +kernel
theorem tyJ9_ok : ∀ k, k < 0 → parseFieldDescriptor (TJ9 k).2.2.1 = some (tyJ9 k) := by decide +kernel
abbrev cJ9_max_7cf53 : ByteArray := prog_12_method_65_code
def yJ9_max_7cf53 : MethodName := ⟨RJ9, "max", "(II)I"⟩
abbrev cJ9_min_7cf53 : ByteArray := prog_12_method_69_code
def yJ9_min_7cf53 : MethodName := ⟨RJ9, "min", "(II)I"⟩
def RJ0 : String := "java/lang/String"
def TJ0 : u_T := fun k => match k with
  | _ => ("", "", "", false)
def tyJ0 : Nat → FieldType := fun k => match k with
  | _ => .int
abbrev wsJ00 : List Cond := u_ws RJ0 TJ0 0
theorem nmJ0 : ∀ a, a < 0 → ∀ b, b < 0 → a ≠ b → (TJ0 a).2.1 ≠ (TJ0 b).2.1 := by decide +kernel
theorem tyJ0_ok : ∀ k, k < 0 → parseFieldDescriptor (TJ0 k).2.2.1 = some (tyJ0 k) := by decide +kernel
abbrev cJ0_length_8abf5 : ByteArray := prog_13_method_54_code
def yJ0_length_8abf5 : MethodName := ⟨RJ0, "length", "()I"⟩
abbrev cJ0_charAt_5068e : ByteArray := prog_13_method_56_code
def yJ0_charAt_5068e : MethodName := ⟨RJ0, "charAt", "(I)C"⟩
abbrev cJ0_coder_7d493 : ByteArray := prog_13_method_152_code
def yJ0_coder_7d493 : MethodName := ⟨RJ0, "coder", "()B"⟩
abbrev cJ0_isLatin1_aae02 : ByteArray := prog_13_method_154_code
def yJ0_isLatin1_aae02 : MethodName := ⟨RJ0, "isLatin1", "()Z"⟩
abbrev cJ0_checkIndex_df160 : ByteArray := prog_13_method_155_code
def yJ0_checkIndex_df160 : MethodName := ⟨RJ0, "checkIndex", "(II)V"⟩
def RJ1 : String := "java/lang/StringLatin1"
def TJ1 : u_T := fun k => match k with
  | _ => ("", "", "", false)
def tyJ1 : Nat → FieldType := fun k => match k with
  | _ => .int
abbrev wsJ10 : List Cond := u_ws RJ1 TJ1 0
theorem nmJ1 : ∀ a, a < 0 → ∀ b, b < 0 → a ≠ b → (TJ1 a).2.1 ≠ (TJ1 b).2.1 := by decide +kernel
theorem tyJ1_ok : ∀ k, k < 0 → parseFieldDescriptor (TJ1 k).2.2.1 = some (tyJ1 k) := by decide +kernel
abbrev cJ1_charAt_3b067 : ByteArray := prog_14_method_2_code
def yJ1_charAt_3b067 : MethodName := ⟨RJ1, "charAt", "([BI)C"⟩
def RJ2 : String := "java/lang/StringUTF16"
def TJ2 : u_T := fun k => match k with
  | _ => ("", "", "", false)
def tyJ2 : Nat → FieldType := fun k => match k with
  | _ => .int
abbrev wsJ20 : List Cond := u_ws RJ2 TJ2 0
theorem nmJ2 : ∀ a, a < 0 → ∀ b, b < 0 → a ≠ b → (TJ2 a).2.1 ≠ (TJ2 b).2.1 := by decide +kernel
theorem tyJ2_ok : ∀ k, k < 0 → parseFieldDescriptor (TJ2 k).2.2.1 = some (tyJ2 k) := by decide +kernel
abbrev cJ2_getChar_3b067 : ByteArray := prog_15_method_5_code
def yJ2_getChar_3b067 : MethodName := ⟨RJ2, "getChar", "([BI)C"⟩
abbrev cJ2_length_9d52b : ByteArray := prog_15_method_6_code
def yJ2_length_9d52b : MethodName := ⟨RJ2, "length", "([B)I"⟩
abbrev cJ2_charAt_3b067 : ByteArray := prog_15_method_83_code
def yJ2_charAt_3b067 : MethodName := ⟨RJ2, "charAt", "([BI)C"⟩
abbrev cJ2_checkIndex_2214a : ByteArray := prog_15_method_91_code
def yJ2_checkIndex_2214a : MethodName := ⟨RJ2, "checkIndex", "(I[B)V"⟩
def RJ3 : String := "jdk/internal/util/Preconditions"
def TJ3 : u_T := fun k => match k with
  | _ => ("", "", "", false)
def tyJ3 : Nat → FieldType := fun k => match k with
  | _ => .int
abbrev wsJ30 : List Cond := u_ws RJ3 TJ3 0
theorem nmJ3 : ∀ a, a < 0 → ∀ b, b < 0 → a ≠ b → (TJ3 a).2.1 ≠ (TJ3 b).2.1 := by decide +kernel
theorem tyJ3_ok : ∀ k, k < 0 → parseFieldDescriptor (TJ3 k).2.2.1 = some (tyJ3 k) := by decide +kernel
abbrev cJ3_checkIndex_8e157 : ByteArray := prog_16_method_11_code
def yJ3_checkIndex_8e157 : MethodName := ⟨RJ3, "checkIndex", "(IILjava/util/function/BiFunction;)I"⟩
def RL : String := "DamOfTurfLaw"
abbrev cL_law : ByteArray := code
def yL_law : MethodName := ⟨RL, "law", "([I)Z"⟩
end
section
/-- the words of the tables that go on holding through calls -/
def lw_ok : List Cond := lw_tbl.filter goodWord
theorem lw_ok_in {w : Cond} (h : w ∈ lw_tbl) (g : goodWord w = true) : w ∈ lw_ok := List.mem_filter.mpr ⟨h, g⟩
theorem lw_ok_tbl {w : Cond} (h : w ∈ lw_ok) : w ∈ lw_tbl := (List.mem_filter.mp h).1
/-! ===== worlds of cells whose shape stays: what they hold is σ, cell by cell, place by place ===== -/
abbrev vv_S : Type := Nat → Nat → Int32
/-- the shape of a cell: an object (its class's place in vv_cl; of each field 0 an int, r + 1 the cell r), an int array of so many places, an array of references (its type's place, how many, the cell at place j is b + st j) -/
abbrev vv_Sh : Type := (Nat × List Nat) ⊕ (Nat ⊕ (Nat × Nat × Nat × Nat))
def vv_up (σ : vv_S) (k j : Nat) (v : Int32) : vv_S := fun c => if c = k then upd (σ c) j v else σ c
theorem vv_up_s {σ : vv_S} {k j : Nat} {v : Int32} : vv_up σ k j v k j = v := by simp [vv_up, upd]
theorem vv_up_c {σ : vv_S} {k j c i : Nat} {v : Int32} (h : c ≠ k) : vv_up σ k j v c i = σ c i := by simp [vv_up, h]
theorem vv_up_r {σ : vv_S} {k j c : Nat} {v : Int32} (h : c ≠ k) : vv_up σ k j v c = σ c := by simp [vv_up, h]
theorem vv_up_i {σ : vv_S} {k j i : Nat} {v : Int32} (h : i ≠ j) : vv_up σ k j v k i = σ k i := by simp [vv_up, upd, h]
theorem vv_up_row {σ : vv_S} {k j : Nat} {v : Int32} : vv_up σ k j v k = upd (σ k) j v := by simp [vv_up]
def vv_fs (q : Nat → Nat) (row : Nat → Int32) : Nat → List Nat → List Value
  | _, [] => []
  | j, 0 :: t => .int (row j) :: vv_fs q row (j + 1) t
  | j, (r + 1) :: t => .ref (q r) :: vv_fs q row (j + 1) t
theorem vv_fs_len {q : Nat → Nat} {row : Nat → Int32} : ∀ (fl : List Nat) (j : Nat), (vv_fs q row j fl).length = fl.length
  | [], _ => rfl
  | 0 :: t, j => congrArg (· + 1) (vv_fs_len t (j + 1))
  | (_ + 1) :: t, j => congrArg (· + 1) (vv_fs_len t (j + 1))
theorem vv_fs_int {q : Nat → Nat} {row : Nat → Int32} : ∀ (fl : List Nat) (j i : Nat), fl[i]? = some 0 → (vv_fs q row j fl)[i]? = some (.int (row (j + i)))
  | [], _, _, h => by simp at h
  | 0 :: t, j, 0, _ => rfl
  | (r + 1) :: t, j, 0, h => by simp at h
  | 0 :: t, j, i + 1, h => by
    have h2 := vv_fs_int (q := q) (row := row) t (j + 1) i (by simpa using h)
    rw [show j + (i + 1) = j + 1 + i by omega]
    simpa [vv_fs] using h2
  | (r + 1) :: t, j, i + 1, h => by
    have h2 := vv_fs_int (q := q) (row := row) t (j + 1) i (by simpa using h)
    rw [show j + (i + 1) = j + 1 + i by omega]
    simpa [vv_fs] using h2
theorem vv_fs_ref {q : Nat → Nat} {row : Nat → Int32} {r : Nat} : ∀ (fl : List Nat) (j i : Nat), fl[i]? = some (r + 1) → (vv_fs q row j fl)[i]? = some (.ref (q r))
  | [], _, _, h => by simp at h
  | 0 :: t, j, 0, h => by simp at h
  | (r' + 1) :: t, j, 0, h => by
    have : r' = r := by simpa using h
    subst this
    rfl
  | 0 :: t, j, i + 1, h => by
    have h2 := vv_fs_ref (q := q) (row := row) t (j + 1) i (by simpa using h)
    simpa [vv_fs] using h2
  | (r' + 1) :: t, j, i + 1, h => by
    have h2 := vv_fs_ref (q := q) (row := row) t (j + 1) i (by simpa using h)
    simpa [vv_fs] using h2
theorem vv_fs_congr {q : Nat → Nat} {row row' : Nat → Int32} : ∀ (fl : List Nat) (j : Nat), (∀ k, j ≤ k → row k = row' k) → vv_fs q row j fl = vv_fs q row' j fl
  | [], _, _ => rfl
  | 0 :: t, j, h => by
    show _ :: _ = _ :: _
    rw [h j (Nat.le_refl j), vv_fs_congr t (j + 1) (fun k hk => h k (by omega))]
  | (r + 1) :: t, j, h => by
    show _ :: _ = _ :: _
    rw [vv_fs_congr t (j + 1) (fun k hk => h k (by omega))]
theorem vv_fs_set {q : Nat → Nat} {row : Nat → Int32} {v : Int32} : ∀ (fl : List Nat) (j i : Nat), fl[i]? = some 0 → (vv_fs q row j fl).set i (.int v) = vv_fs q (upd row (j + i) v) j fl
  | [], _, _, h => by simp at h
  | 0 :: t, j, 0, _ => by
    show _ :: _ = _ :: _
    rw [show upd row (j + 0) v j = v by simp [upd], vv_fs_congr (row' := upd row (j + 0) v) t (j + 1) (fun k hk => by simp [upd, show k ≠ j by omega])]
  | (r + 1) :: t, j, 0, h => by simp at h
  | 0 :: t, j, i + 1, h => by
    have h2 := vv_fs_set (q := q) (row := row) (v := v) t (j + 1) i (by simpa using h)
    show _ :: _ = _ :: _
    rw [h2, show j + (i + 1) = j + 1 + i by omega]
    congr 2
    simp [upd, show j ≠ j + 1 + i by omega]
  | (r + 1) :: t, j, i + 1, h => by
    have h2 := vv_fs_set (q := q) (row := row) (v := v) t (j + 1) i (by simpa using h)
    show _ :: _ = _ :: _
    rw [h2, show j + (i + 1) = j + 1 + i by omega]
def vv_e (ty : Nat → ClassId) (q : Nat → Nat) (row : Nat → Int32) (s : vv_Sh) : va_E := match s with
  | .inl o => .inr (o.1, vv_fs q row 0 o.2)
  | .inr (.inl n) => .inl (ty 0, n, .inl row)
  | .inr (.inr a) => .inl (ty a.1, a.2.1, .inr (.inr (.inr (.inr (fun j => some (q (a.2.2.1 + a.2.2.2 * j)))))))
abbrev vv_Wd : Type := (Nat → vv_Sh) × Nat
def vv_W (w : vv_Wd) (ty : Nat → ClassId) (q : Nat → Nat) (σ : vv_S) : va_W := (List.range w.2).map (fun k => (q k, vv_e ty q (σ k) (w.1 k)))
theorem vv_W_get {w : vv_Wd} {ty : Nat → ClassId} {q : Nat → Nat} {σ : vv_S} {k : Nat} (h : k < w.2) : (vv_W w ty q σ)[k]? = some (q k, vv_e ty q (σ k) (w.1 k)) := by simp [vv_W, h]
theorem vv_W_none {w : vv_Wd} {ty : Nat → ClassId} {q : Nat → Nat} {σ : vv_S} {k : Nat} (h : ¬ k < w.2) : (vv_W w ty q σ)[k]? = none := by simp [vv_W]; omega
theorem vv_W_set {w : vv_Wd} {ty : Nat → ClassId} {q : Nat → Nat} {σ : vv_S} {k j : Nat} {v : Int32} {e : va_E} (h : k < w.2) (he : vv_e ty q (upd (σ k) j v) (w.1 k) = e) : (vv_W w ty q σ).set k (q k, e) = vv_W w ty q (vv_up σ k j v) := by
  apply List.ext_getElem?
  intro i
  rw [List.getElem?_set]
  by_cases e1 : k = i
  · subst e1
    rw [if_pos rfl, vv_W_get h, vv_up_row, he]
    have : k < (vv_W w ty q σ).length := by simp [vv_W, h]
    simp [this]
  · rw [if_neg e1]
    by_cases e2 : i < w.2
    · rw [vv_W_get e2, vv_W_get e2, vv_up_r (fun z => e1 z.symm)]
    · rw [vv_W_none e2, vv_W_none e2]
theorem vv_W_D {A : Nat → Prop} {w : vv_Wd} {ty : Nat → ClassId} {q : Nat → Nat} {σ σ' : vv_S} (h : va_D A (vv_W w ty q σ)) : va_D A (vv_W w ty q σ') := by
  have key : ∀ (k : Nat) (x : Nat × va_E), (vv_W w ty q σ')[k]? = some x → ∃ y, (vv_W w ty q σ)[k]? = some y ∧ y.1 = x.1 := by
    intro k x hx
    by_cases hk : k < w.2
    · rw [vv_W_get hk] at hx
      cases hx
      exact ⟨_, vv_W_get hk, rfl⟩
    · rw [vv_W_none hk] at hx
      cases hx
  refine ⟨fun i j x y hx hy hxy => ?_, fun k x hx => ?_⟩
  · obtain ⟨x', hx', e1⟩ := key i x hx
    obtain ⟨y', hy', e2⟩ := key j y hy
    exact h.1 i j x' y' hx' hy' (by rw [e1, e2, hxy])
  · obtain ⟨x', hx', e1⟩ := key k x hx
    rw [← e1]
    exact h.2 k x' hx'
theorem vv_W_A {w : vv_Wd} {ty : Nat → ClassId} {q : Nat → Nat} {σ σ' : vv_S} {sz a : Nat} (h : va_A (vv_W w ty q σ') sz a) : va_A (vv_W w ty q σ) sz a := by
  rcases h with ⟨k, e, h⟩ | h
  · by_cases hk : k < w.2
    · rw [vv_W_get hk] at h
      cases h
      exact Or.inl ⟨k, _, vv_W_get hk⟩
    · rw [vv_W_none hk] at h
      cases h
  · exact Or.inr h
/-- all classes of the worlds -/
abbrev vv_cl : List vw_C := [(RX0, TX0, 5), (RX1, TX1, 8), (RX2, TX2, 6), (RX3, TX3, 16), (RX4, TX4, 9), (RX5, TX5, 2), (RX6, TX6, 3), (RX7, TX7, 4), (RX8, TX8, 11), (RX9, TX9, 48)]
abbrev vv_tys (ty : Nat → ClassId) : List (ClassId × FieldType) := [(ty 0, .int), (ty 1, .object RX0), (ty 2, .array .int)]
/-- a world's setting: launch, classes, array classes, addresses, shape -/
abbrev vv_Y : Type := Launch × va_G × (Nat → ClassId) × (Nat → Nat) × vv_Wd
abbrev vv_q (Y : vv_Y) (k : Nat) : Nat := Y.2.2.2.1 k
abbrev vv_sh (Y : vv_Y) (k : Nat) : vv_Sh := Y.2.2.2.2.1 k
abbrev vv_w (Y : vv_Y) (σ : vv_S) : va_W := vv_W Y.2.2.2.2 Y.2.2.1 Y.2.2.2.1 σ
/-- a frame's setting -/
abbrev vv_X : Type := (Program × Env × Room × State × MethodId × Array Value × List Frame × Method × Code) × (Nat → Prop)
def vv_B (Y : vv_Y) (σ : vv_S) (U : State) : Prop := va_P Y.2.1 vv_cl (vv_w Y σ) U.heap ∧ va_K Y.2.1 vv_cl (vv_tys Y.2.2.1) U
/-- the machine, in the frame of a method, with these locals and this stack, the world holding σ -/
def VJ (Y : vv_Y) (X : vv_X) (K : Array Value → State → Outcome → State → Prop) (nL pc : Nat) (L : List (Nat × Value)) (st : List Value) (σ : vv_S) : Prop :=
  ∀ (H : Heap) (locs : List Loc) (ls : Array Slot), va_P Y.2.1 vv_cl (vv_w Y σ) H → va_S X.2 X.1.2.2.2.1.heap H locs → lv_has ls nL L →
    W X.1.1 Y.1 X.1.2.1 X.1.2.2.1 X.1.2.2.2.1 X.1.2.2.2.2.1 X.1.2.2.2.2.2.1 X.1.2.2.2.2.2.2.1 X.1.2.2.2.2.2.2.2.1 X.1.2.2.2.2.2.2.2.2 H locs 0 0 (MQ X.1.2.2.2.2.2.2.1 K X.1.2.2.2.2.2.1 X.1.2.2.2.1 0 0 X.2) (F0 X.1.2.2.2.2.1 pc ls st)
/-- what holds all through a method -/
def VC (Y : vv_Y) (X : vv_X) (own : String) (cc : ByteArray) (nL : Nat) (ret : Option FieldType) (fr lo : Nat) : Prop :=
  X.1.1.tables.exec = Jvm.exec ∧ X.1.2.2.2.2.2.2.2.2.code = cc ∧ X.1.2.2.2.2.2.2.2.2.maxLocals = nL ∧ X.1.2.2.2.1.vm.findClass own = some X.1.2.2.2.2.1.cls ∧ (∀ w ∈ lw_ok, w.before X.1.2.2.2.2.2.1 X.1.2.2.2.1 = true) ∧ va_K Y.2.1 vv_cl (vv_tys Y.2.2.1) X.1.2.2.2.1 ∧ (∀ q : Nat, X.1.2.2.2.1.heap.size ≤ q → X.2 q) ∧ X.1.2.2.2.2.2.2.2.1.locks = false ∧ va_D X.2 (vv_w Y (fun _ _ => 0)) ∧ X.1.2.2.2.2.2.2.2.1.sig.returnType = ret ∧ X.1.2.2.1 = { frames := fr, cells := 0, slots := 0, locals := lo }
section VR
variable {Y : vv_Y} {X : vv_X} {K : Array Value → State → Outcome → State → Prop} {own : String} {cc : ByteArray} {nL : Nat} {ret : Option FieldType} {fr lo pc : Nat} {L L' : List (Nat × Value)} {st : List Value} {σ : vv_S}
theorem VC.hx (C : VC Y X own cc nL ret fr lo) : X.1.1.tables.exec = Jvm.exec := C.1
theorem VC.hb (C : VC Y X own cc nL ret fr lo) : X.1.2.2.2.2.2.2.2.2.code = cc := C.2.1
theorem VC.hml (C : VC Y X own cc nL ret fr lo) : X.1.2.2.2.2.2.2.2.2.maxLocals = nL := C.2.2.1
theorem VC.hown (C : VC Y X own cc nL ret fr lo) : X.1.2.2.2.1.vm.findClass own = some X.1.2.2.2.2.1.cls := C.2.2.2.1
theorem VC.hts (C : VC Y X own cc nL ret fr lo) : ∀ w ∈ lw_ok, w.before X.1.2.2.2.2.2.1 X.1.2.2.2.1 = true := C.2.2.2.2.1
theorem VC.hK (C : VC Y X own cc nL ret fr lo) : va_K Y.2.1 vv_cl (vv_tys Y.2.2.1) X.1.2.2.2.1 := C.2.2.2.2.2.1
theorem VC.hA (C : VC Y X own cc nL ret fr lo) : ∀ q : Nat, X.1.2.2.2.1.heap.size ≤ q → X.2 q := C.2.2.2.2.2.2.1
theorem VC.hlk (C : VC Y X own cc nL ret fr lo) : X.1.2.2.2.2.2.2.2.1.locks = false := C.2.2.2.2.2.2.2.1
theorem VC.hD (C : VC Y X own cc nL ret fr lo) (σ : vv_S) : va_D X.2 (vv_w Y σ) := vv_W_D C.2.2.2.2.2.2.2.2.1
theorem VC.hr (C : VC Y X own cc nL ret fr lo) : X.1.2.2.2.2.2.2.2.1.sig.returnType = ret := C.2.2.2.2.2.2.2.2.2.1
theorem VC.hR (C : VC Y X own cc nL ret fr lo) : X.1.2.2.1 = { frames := fr, cells := 0, slots := 0, locals := lo } := C.2.2.2.2.2.2.2.2.2.2
theorem VC.fix (C : VC Y X own cc nL ret fr lo) : CallFix X.1.1 X.1.2.2.2.2.1 X.1.2.2.2.2.2.2.2.2 cc nL X.1.2.2.2.1 X.1.2.2.2.2.2.1 lw_ok own := ⟨C.hx, C.hb, C.hml, C.hown, C.hts⟩
/-- a class's facts -/
def vv_Kc (ci : Nat) (Cn : String) (T : u_T) (N : Nat) : Prop := vv_cl[ci]? = some (Cn, T, N) ∧ (∀ w ∈ u_ws Cn T N, w ∈ lw_ok) ∧ (∀ a, a < N → ∀ b, b < N → a ≠ b → (T a).2.1 ≠ (T b).2.1) ∧ ∃ ty0 : Nat → FieldType, ∀ k, k < N → parseFieldDescriptor (T k).2.2.1 = some (ty0 k)
theorem vv_nm {e : Int32} (k : ∀ x, x = e → VJ Y X K nL pc L (.int x :: st) σ) : VJ Y X K nL pc L (.int e :: st) σ := k e rfl
theorem vv_sub (ks : List Nat) (hl : lv_pick L ks = L') (k : VJ Y X K nL pc L' st σ) : VJ Y X K nL pc L st σ := fun H locs ls hP hS h => k H locs ls hP hS (lv_sub h ks hl)
theorem vv_iconst (C : VC Y X own cc nL ret fr lo) {n : Int} {v : Int32} (hd : decode cc pc = .ok (.iconst n, 1)) (hv : Int32.ofInt n = v) (k : VJ Y X K nL (pc + 1) L (.int v :: st) σ) : VJ Y X K nL pc L st σ := fun H locs ls hP hS h => lv_iconst C.hx C.hb hd hv (k H locs ls hP hS h)
theorem vv_bipush (C : VC Y X own cc nL ret fr lo) {n : Int} {v : Int32} (hd : decode cc pc = .ok (.bipush n, 2)) (hv : (Int8.ofInt n).toInt32 = v) (k : VJ Y X K nL (pc + 2) L (.int v :: st) σ) : VJ Y X K nL pc L st σ := fun H locs ls hP hS h => lv_bipush C.hx C.hb hd hv (k H locs ls hP hS h)
theorem vv_sipush (C : VC Y X own cc nL ret fr lo) {n : Int} {v : Int32} (hd : decode cc pc = .ok (.sipush n, 3)) (hv : (Int16.ofInt n).toInt32 = v) (k : VJ Y X K nL (pc + 3) L (.int v :: st) σ) : VJ Y X K nL pc L st σ := fun H locs ls hP hS h => lv_sipush C.hx C.hb hd hv (k H locs ls hP hS h)
theorem vv_lconst (C : VC Y X own cc nL ret fr lo) {n : Fin 2} {v : Int64} (hd : decode cc pc = .ok (.lconst n, 1)) (hv : Int64.ofNat (n : Nat) = v) (k : VJ Y X K nL (pc + 1) L (.long v :: st) σ) : VJ Y X K nL pc L st σ := fun H locs ls hP hS h => lv_lconst C.hx C.hb hd hv (k H locs ls hP hS h)
theorem vv_ldc2 (C : VC Y X own cc nL ret fr lo) {index : Nat} {v : Int64} (hc : Cond.constantLong own index v ∈ lw_ok) (hd : decode cc pc = .ok (.ldc2_w index, 3)) (k : VJ Y X K nL (pc + 3) L (.long v :: st) σ) : VJ Y X K nL pc L st σ := fun H locs ls hP hS h => lv_ldc2 C.hx C.hb C.hown (C.hts _ hc) hd (k H locs ls hP hS h)
theorem vv_iload_n (C : VC Y X own cc nL ret fr lo) {j : Fin 4} {i : Nat} {x : Int32} (t : Nat) (hd : decode cc pc = .ok (.iload_n j, 1)) (hi : (j : Nat) = i) (hL : L[t]? = some (i, .int x)) (k : VJ Y X K nL (pc + 1) L (.int x :: st) σ) : VJ Y X K nL pc L st σ := fun H locs ls hP hS h => lv_iload_n C.hx C.hb hd hi (lv_at h t hL) (k H locs ls hP hS h)
theorem vv_iload (C : VC Y X own cc nL ret fr lo) {i : Nat} {x : Int32} (t : Nat) (hd : decode cc pc = .ok (.iload i, 2)) (hL : L[t]? = some (i, .int x)) (k : VJ Y X K nL (pc + 2) L (.int x :: st) σ) : VJ Y X K nL pc L st σ := fun H locs ls hP hS h => lv_iload C.hx C.hb hd (lv_at h t hL) (k H locs ls hP hS h)
theorem vv_lload_n (C : VC Y X own cc nL ret fr lo) {j : Fin 4} {i : Nat} {x : Int64} (t : Nat) (hd : decode cc pc = .ok (.lload_n j, 1)) (hi : (j : Nat) = i) (hL : L[t]? = some (i, .long x)) (k : VJ Y X K nL (pc + 1) L (.long x :: st) σ) : VJ Y X K nL pc L st σ := fun H locs ls hP hS h => lv_lload_n C.hx C.hb hd hi (lv_at h t hL) (k H locs ls hP hS h)
theorem vv_lload (C : VC Y X own cc nL ret fr lo) {i : Nat} {x : Int64} (t : Nat) (hd : decode cc pc = .ok (.lload i, 2)) (hL : L[t]? = some (i, .long x)) (k : VJ Y X K nL (pc + 2) L (.long x :: st) σ) : VJ Y X K nL pc L st σ := fun H locs ls hP hS h => lv_lload C.hx C.hb hd (lv_at h t hL) (k H locs ls hP hS h)
theorem vv_aload_n (C : VC Y X own cc nL ret fr lo) {j : Fin 4} {i : Nat} {x : Nat} (t : Nat) (hd : decode cc pc = .ok (.aload_n j, 1)) (hi : (j : Nat) = i) (hL : L[t]? = some (i, .ref x)) (k : VJ Y X K nL (pc + 1) L (.ref x :: st) σ) : VJ Y X K nL pc L st σ := fun H locs ls hP hS h => lv_aload_n C.hx C.hb hd hi (lv_at h t hL) (k H locs ls hP hS h)
theorem vv_aload (C : VC Y X own cc nL ret fr lo) {i : Nat} {x : Nat} (t : Nat) (hd : decode cc pc = .ok (.aload i, 2)) (hL : L[t]? = some (i, .ref x)) (k : VJ Y X K nL (pc + 2) L (.ref x :: st) σ) : VJ Y X K nL pc L st σ := fun H locs ls hP hS h => lv_aload C.hx C.hb hd (lv_at h t hL) (k H locs ls hP hS h)
theorem vv_istore_n (C : VC Y X own cc nL ret fr lo) {j : Fin 4} {i : Nat} {x : Int32} (hd : decode cc pc = .ok (.istore_n j, 1)) (hi : (j : Nat) = i) (hn : i < nL) (hl : (i, Value.int x) :: L.filter (fun q => !(q.1 == i) && !(q.1 + 1 == i && q.2.category == 2)) = L') (k : VJ Y X K nL (pc + 1) L' st σ) : VJ Y X K nL pc L (.int x :: st) σ := fun H locs ls hP hS h => lv_istore_n C.hx C.hb hd hi h hn hl (fun ls' h' => k H locs ls' hP hS h')
theorem vv_istore (C : VC Y X own cc nL ret fr lo) {i : Nat} {x : Int32} (hd : decode cc pc = .ok (.istore i, 2)) (hn : i < nL) (hl : (i, Value.int x) :: L.filter (fun q => !(q.1 == i) && !(q.1 + 1 == i && q.2.category == 2)) = L') (k : VJ Y X K nL (pc + 2) L' st σ) : VJ Y X K nL pc L (.int x :: st) σ := fun H locs ls hP hS h => lv_istore C.hx C.hb hd h hn hl (fun ls' h' => k H locs ls' hP hS h')
theorem vv_lstore_n (C : VC Y X own cc nL ret fr lo) {j : Fin 4} {i : Nat} {x : Int64} (hd : decode cc pc = .ok (.lstore_n j, 1)) (hi : (j : Nat) = i) (hn : i + 1 < nL) (hl : (i, Value.long x) :: L.filter (fun q => !(q.1 == i) && (!(q.1 == i + 1) && !(q.1 + 1 == i && q.2.category == 2))) = L') (k : VJ Y X K nL (pc + 1) L' st σ) : VJ Y X K nL pc L (.long x :: st) σ := fun H locs ls hP hS h => lv_lstore_n C.hx C.hb hd hi h hn hl (fun ls' h' => k H locs ls' hP hS h')
theorem vv_lstore (C : VC Y X own cc nL ret fr lo) {i : Nat} {x : Int64} (hd : decode cc pc = .ok (.lstore i, 2)) (hn : i + 1 < nL) (hl : (i, Value.long x) :: L.filter (fun q => !(q.1 == i) && (!(q.1 == i + 1) && !(q.1 + 1 == i && q.2.category == 2))) = L') (k : VJ Y X K nL (pc + 2) L' st σ) : VJ Y X K nL pc L (.long x :: st) σ := fun H locs ls hP hS h => lv_lstore C.hx C.hb hd h hn hl (fun ls' h' => k H locs ls' hP hS h')
theorem vv_iinc (C : VC Y X own cc nL ret fr lo) {i : Nat} (t : Nat) {n : Int} {x v : Int32} (hd : decode cc pc = .ok (.iinc i n, 3)) (hL : L[t]? = some (i, .int x)) (hv : x + Int32.ofInt n = v) (hn : i < nL) (hl : (i, Value.int v) :: L.filter (fun q => !(q.1 == i) && !(q.1 + 1 == i && q.2.category == 2)) = L') (k : VJ Y X K nL (pc + 3) L' st σ) : VJ Y X K nL pc L st σ := fun H locs ls hP hS h => lv_iinc C.hx C.hb hd h hL hv hn hl (fun ls' h' => k H locs ls' hP hS h')
theorem vv_iadd (C : VC Y X own cc nL ret fr lo) {x y : Int32} (hd : decode cc pc = .ok (.iadd, 1)) (k : VJ Y X K nL (pc + 1) L (.int (x + y) :: st) σ) : VJ Y X K nL pc L (.int y :: .int x :: st) σ := fun H locs ls hP hS h => lv_iadd C.hx C.hb hd (k H locs ls hP hS h)
theorem vv_isub (C : VC Y X own cc nL ret fr lo) {x y : Int32} (hd : decode cc pc = .ok (.isub, 1)) (k : VJ Y X K nL (pc + 1) L (.int (x - y) :: st) σ) : VJ Y X K nL pc L (.int y :: .int x :: st) σ := fun H locs ls hP hS h => lv_isub C.hx C.hb hd (k H locs ls hP hS h)
theorem vv_imul (C : VC Y X own cc nL ret fr lo) {x y : Int32} (hd : decode cc pc = .ok (.imul, 1)) (k : VJ Y X K nL (pc + 1) L (.int (x * y) :: st) σ) : VJ Y X K nL pc L (.int y :: .int x :: st) σ := fun H locs ls hP hS h => lv_imul C.hx C.hb hd (k H locs ls hP hS h)
theorem vv_iand (C : VC Y X own cc nL ret fr lo) {x y : Int32} (hd : decode cc pc = .ok (.iand, 1)) (k : VJ Y X K nL (pc + 1) L (.int (x &&& y) :: st) σ) : VJ Y X K nL pc L (.int y :: .int x :: st) σ := fun H locs ls hP hS h => lv_iand C.hx C.hb hd (k H locs ls hP hS h)
theorem vv_ior (C : VC Y X own cc nL ret fr lo) {x y : Int32} (hd : decode cc pc = .ok (.ior, 1)) (k : VJ Y X K nL (pc + 1) L (.int (x ||| y) :: st) σ) : VJ Y X K nL pc L (.int y :: .int x :: st) σ := fun H locs ls hP hS h => lv_ior C.hx C.hb hd (k H locs ls hP hS h)
theorem vv_ishl (C : VC Y X own cc nL ret fr lo) {x y : Int32} (hd : decode cc pc = .ok (.ishl, 1)) (k : VJ Y X K nL (pc + 1) L (.int (x <<< (y &&& 31)) :: st) σ) : VJ Y X K nL pc L (.int y :: .int x :: st) σ := fun H locs ls hP hS h => lv_ishl C.hx C.hb hd (k H locs ls hP hS h)
theorem vv_ishr (C : VC Y X own cc nL ret fr lo) {x y : Int32} (hd : decode cc pc = .ok (.ishr, 1)) (k : VJ Y X K nL (pc + 1) L (.int (x >>> (y &&& 31)) :: st) σ) : VJ Y X K nL pc L (.int y :: .int x :: st) σ := fun H locs ls hP hS h => lv_ishr C.hx C.hb hd (k H locs ls hP hS h)
theorem vv_idiv (C : VC Y X own cc nL ret fr lo) {x y : Int32} (hd : decode cc pc = .ok (.idiv, 1)) (hne : ¬ y = 0) (k : VJ Y X K nL (pc + 1) L (.int (x / y) :: st) σ) : VJ Y X K nL pc L (.int y :: .int x :: st) σ := fun H locs ls hP hS h => lv_idiv C.hx C.hb hd hne (k H locs ls hP hS h)
theorem vv_irem (C : VC Y X own cc nL ret fr lo) {x y : Int32} (hd : decode cc pc = .ok (.irem, 1)) (hne : ¬ y = 0) (k : VJ Y X K nL (pc + 1) L (.int (x - x / y * y) :: st) σ) : VJ Y X K nL pc L (.int y :: .int x :: st) σ := fun H locs ls hP hS h => lv_irem C.hx C.hb hd hne (k H locs ls hP hS h)
theorem vv_ladd (C : VC Y X own cc nL ret fr lo) {x y : Int64} (hd : decode cc pc = .ok (.ladd, 1)) (k : VJ Y X K nL (pc + 1) L (.long (x + y) :: st) σ) : VJ Y X K nL pc L (.long y :: .long x :: st) σ := fun H locs ls hP hS h => lv_ladd C.hx C.hb hd (k H locs ls hP hS h)
theorem vv_lmul (C : VC Y X own cc nL ret fr lo) {x y : Int64} (hd : decode cc pc = .ok (.lmul, 1)) (k : VJ Y X K nL (pc + 1) L (.long (x * y) :: st) σ) : VJ Y X K nL pc L (.long y :: .long x :: st) σ := fun H locs ls hP hS h => lv_lmul C.hx C.hb hd (k H locs ls hP hS h)
theorem vv_lrem (C : VC Y X own cc nL ret fr lo) {x y : Int64} (hd : decode cc pc = .ok (.lrem, 1)) (hne : ¬ y = 0) (k : VJ Y X K nL (pc + 1) L (.long (x - x / y * y) :: st) σ) : VJ Y X K nL pc L (.long y :: .long x :: st) σ := fun H locs ls hP hS h => lv_lrem C.hx C.hb hd hne (k H locs ls hP hS h)
theorem vv_i2l (C : VC Y X own cc nL ret fr lo) {x : Int32} (hd : decode cc pc = .ok (.i2l, 1)) (k : VJ Y X K nL (pc + 1) L (.long x.toInt64 :: st) σ) : VJ Y X K nL pc L (.int x :: st) σ := fun H locs ls hP hS h => lv_i2l C.hx C.hb hd rfl (k H locs ls hP hS h)
theorem vv_l2i (C : VC Y X own cc nL ret fr lo) {x : Int64} (hd : decode cc pc = .ok (.l2i, 1)) (k : VJ Y X K nL (pc + 1) L (.int x.toInt32 :: st) σ) : VJ Y X K nL pc L (.long x :: st) σ := fun H locs ls hP hS h => lv_l2i C.hx C.hb hd rfl (k H locs ls hP hS h)
theorem vv_lcmp (C : VC Y X own cc nL ret fr lo) {x y : Int64} (hd : decode cc pc = .ok (.lcmp, 1)) (k : VJ Y X K nL (pc + 1) L (.int (lg_cmp x y) :: st) σ) : VJ Y X K nL pc L (.long y :: .long x :: st) σ := fun H locs ls hP hS h => W.lcmp C.hx C.hb hd (k H locs ls hP hS h)
theorem vv_dup (C : VC Y X own cc nL ret fr lo) {va : Value} (hd : decode cc pc = .ok (.dup, 1)) (hv : va.category = 1) (k : VJ Y X K nL (pc + 1) L (va :: va :: st) σ) : VJ Y X K nL pc L (va :: st) σ := fun H locs ls hP hS h => lv_dup C.hx C.hb hd hv (k H locs ls hP hS h)
theorem vv_pop (C : VC Y X own cc nL ret fr lo) {va : Value} (hd : decode cc pc = .ok (.pop, 1)) (hv : va.category = 1) (k : VJ Y X K nL (pc + 1) L st σ) : VJ Y X K nL pc L (va :: st) σ := fun H locs ls hP hS h => lv_pop C.hx C.hb hd hv (k H locs ls hP hS h)
theorem vv_dup2 (C : VC Y X own cc nL ret fr lo) {va vb : Value} (hd : decode cc pc = .ok (.dup2, 1)) (ha : va.category = 1) (hb : vb.category = 1) (k : VJ Y X K nL (pc + 1) L (va :: vb :: va :: vb :: st) σ) : VJ Y X K nL pc L (va :: vb :: st) σ := fun H locs ls hP hS h => lv_dup2_11 C.hx C.hb hd ha hb (k H locs ls hP hS h)
theorem vv_goto (C : VC Y X own cc nL ret fr lo) {off : Int} {tgt : Nat} (hd : decode cc pc = .ok (.goto off, 3)) (ht : (pc : Int) + off = (tgt : Int)) (k : VJ Y X K nL tgt L st σ) : VJ Y X K nL pc L st σ := fun H locs ls hP hS h => lv_goto C.hx C.hb hd ht (k H locs ls hP hS h)
theorem vv_if_eq (C : VC Y X own cc nL ret fr lo) {x : Int32} {off : Int} (tgt : Nat) (hd : decode cc pc = .ok (.ifCond .eq off, 3)) (ht : (pc : Int) + off = (tgt : Int)) (kt : x = 0 → VJ Y X K nL tgt L st σ) (kf : ¬ x = 0 → VJ Y X K nL (pc + 3) L st σ) : VJ Y X K nL pc L (.int x :: st) σ := fun H locs ls hP hS h => lv_if_eq C.hx C.hb hd ht (fun c => kt c H locs ls hP hS h) (fun c => kf c H locs ls hP hS h)
theorem vv_if_ne (C : VC Y X own cc nL ret fr lo) {x : Int32} {off : Int} (tgt : Nat) (hd : decode cc pc = .ok (.ifCond .ne off, 3)) (ht : (pc : Int) + off = (tgt : Int)) (kt : ¬ x = 0 → VJ Y X K nL tgt L st σ) (kf : x = 0 → VJ Y X K nL (pc + 3) L st σ) : VJ Y X K nL pc L (.int x :: st) σ := fun H locs ls hP hS h => lv_if_ne C.hx C.hb hd ht (fun c => kt c H locs ls hP hS h) (fun c => kf c H locs ls hP hS h)
theorem vv_if_lt (C : VC Y X own cc nL ret fr lo) {x : Int32} {off : Int} (tgt : Nat) (hd : decode cc pc = .ok (.ifCond .lt off, 3)) (ht : (pc : Int) + off = (tgt : Int)) (kt : x < 0 → VJ Y X K nL tgt L st σ) (kf : ¬ x < 0 → VJ Y X K nL (pc + 3) L st σ) : VJ Y X K nL pc L (.int x :: st) σ := fun H locs ls hP hS h => lv_if_lt C.hx C.hb hd ht (fun c => kt c H locs ls hP hS h) (fun c => kf c H locs ls hP hS h)
theorem vv_if_ge (C : VC Y X own cc nL ret fr lo) {x : Int32} {off : Int} (tgt : Nat) (hd : decode cc pc = .ok (.ifCond .ge off, 3)) (ht : (pc : Int) + off = (tgt : Int)) (kt : 0 ≤ x → VJ Y X K nL tgt L st σ) (kf : ¬ 0 ≤ x → VJ Y X K nL (pc + 3) L st σ) : VJ Y X K nL pc L (.int x :: st) σ := fun H locs ls hP hS h => lv_if_ge C.hx C.hb hd ht (fun c => kt c H locs ls hP hS h) (fun c => kf c H locs ls hP hS h)
theorem vv_if_gt (C : VC Y X own cc nL ret fr lo) {x : Int32} {off : Int} (tgt : Nat) (hd : decode cc pc = .ok (.ifCond .gt off, 3)) (ht : (pc : Int) + off = (tgt : Int)) (kt : 0 < x → VJ Y X K nL tgt L st σ) (kf : ¬ 0 < x → VJ Y X K nL (pc + 3) L st σ) : VJ Y X K nL pc L (.int x :: st) σ := fun H locs ls hP hS h => lv_if_gt C.hx C.hb hd ht (fun c => kt c H locs ls hP hS h) (fun c => kf c H locs ls hP hS h)
theorem vv_if_le (C : VC Y X own cc nL ret fr lo) {x : Int32} {off : Int} (tgt : Nat) (hd : decode cc pc = .ok (.ifCond .le off, 3)) (ht : (pc : Int) + off = (tgt : Int)) (kt : x ≤ 0 → VJ Y X K nL tgt L st σ) (kf : ¬ x ≤ 0 → VJ Y X K nL (pc + 3) L st σ) : VJ Y X K nL pc L (.int x :: st) σ := fun H locs ls hP hS h => lv_if_le C.hx C.hb hd ht (fun c => kt c H locs ls hP hS h) (fun c => kf c H locs ls hP hS h)
theorem vv_icmp_eq (C : VC Y X own cc nL ret fr lo) {x y : Int32} {off : Int} (tgt : Nat) (hd : decode cc pc = .ok (.if_icmp .eq off, 3)) (ht : (pc : Int) + off = (tgt : Int)) (kt : x = y → VJ Y X K nL tgt L st σ) (kf : ¬ x = y → VJ Y X K nL (pc + 3) L st σ) : VJ Y X K nL pc L (.int y :: .int x :: st) σ := fun H locs ls hP hS h => lv_icmp_eq C.hx C.hb hd ht (fun c => kt c H locs ls hP hS h) (fun c => kf c H locs ls hP hS h)
theorem vv_icmp_ne (C : VC Y X own cc nL ret fr lo) {x y : Int32} {off : Int} (tgt : Nat) (hd : decode cc pc = .ok (.if_icmp .ne off, 3)) (ht : (pc : Int) + off = (tgt : Int)) (kt : ¬ x = y → VJ Y X K nL tgt L st σ) (kf : x = y → VJ Y X K nL (pc + 3) L st σ) : VJ Y X K nL pc L (.int y :: .int x :: st) σ := fun H locs ls hP hS h => lv_icmp_ne C.hx C.hb hd ht (fun c => kt c H locs ls hP hS h) (fun c => kf c H locs ls hP hS h)
theorem vv_icmp_lt (C : VC Y X own cc nL ret fr lo) {x y : Int32} {off : Int} (tgt : Nat) (hd : decode cc pc = .ok (.if_icmp .lt off, 3)) (ht : (pc : Int) + off = (tgt : Int)) (kt : x < y → VJ Y X K nL tgt L st σ) (kf : ¬ x < y → VJ Y X K nL (pc + 3) L st σ) : VJ Y X K nL pc L (.int y :: .int x :: st) σ := fun H locs ls hP hS h => lv_icmp_lt C.hx C.hb hd ht (fun c => kt c H locs ls hP hS h) (fun c => kf c H locs ls hP hS h)
theorem vv_icmp_ge (C : VC Y X own cc nL ret fr lo) {x y : Int32} {off : Int} (tgt : Nat) (hd : decode cc pc = .ok (.if_icmp .ge off, 3)) (ht : (pc : Int) + off = (tgt : Int)) (kt : y ≤ x → VJ Y X K nL tgt L st σ) (kf : ¬ y ≤ x → VJ Y X K nL (pc + 3) L st σ) : VJ Y X K nL pc L (.int y :: .int x :: st) σ := fun H locs ls hP hS h => lv_icmp_ge C.hx C.hb hd ht (fun c => kt c H locs ls hP hS h) (fun c => kf c H locs ls hP hS h)
theorem vv_icmp_gt (C : VC Y X own cc nL ret fr lo) {x y : Int32} {off : Int} (tgt : Nat) (hd : decode cc pc = .ok (.if_icmp .gt off, 3)) (ht : (pc : Int) + off = (tgt : Int)) (kt : y < x → VJ Y X K nL tgt L st σ) (kf : ¬ y < x → VJ Y X K nL (pc + 3) L st σ) : VJ Y X K nL pc L (.int y :: .int x :: st) σ := fun H locs ls hP hS h => lv_icmp_gt C.hx C.hb hd ht (fun c => kt c H locs ls hP hS h) (fun c => kf c H locs ls hP hS h)
theorem vv_icmp_le (C : VC Y X own cc nL ret fr lo) {x y : Int32} {off : Int} (tgt : Nat) (hd : decode cc pc = .ok (.if_icmp .le off, 3)) (ht : (pc : Int) + off = (tgt : Int)) (kt : x ≤ y → VJ Y X K nL tgt L st σ) (kf : ¬ x ≤ y → VJ Y X K nL (pc + 3) L st σ) : VJ Y X K nL pc L (.int y :: .int x :: st) σ := fun H locs ls hP hS h => lv_icmp_le C.hx C.hb hd ht (fun c => kt c H locs ls hP hS h) (fun c => kf c H locs ls hP hS h)
theorem vv_tabOut (C : VC Y X own cc nL ret fr lo) {dflt a b : Int} {offs : Array Int} {len : Nat} {x : Int32} (tgt : Nat) (hd : decode cc pc = .ok (.tableswitch dflt a b offs, len)) (hh : x.toInt < a ∨ b < x.toInt) (ht : (pc : Int) + dflt = (tgt : Int)) (k : VJ Y X K nL tgt L st σ) : VJ Y X K nL pc L (.int x :: st) σ := fun H locs ls hP hS h => lv_tableOut C.hx C.hb hd hh ht (k H locs ls hP hS h)
theorem vv_tabIn (C : VC Y X own cc nL ret fr lo) {dflt a b : Int} {offs : Array Int} {len : Nat} {x : Int32} {off : Int} (tgt : Nat) (hd : decode cc pc = .ok (.tableswitch dflt a b offs, len)) (h1 : ¬ x.toInt < a) (h2 : ¬ b < x.toInt) (ho : offs[(x.toInt - a).toNat]? = some off) (ht : (pc : Int) + off = (tgt : Int)) (k : VJ Y X K nL tgt L st σ) : VJ Y X K nL pc L (.int x :: st) σ := fun H locs ls hP hS h => lv_tableIn C.hx C.hb hd h1 h2 ho ht (k H locs ls hP hS h)
theorem vv_lookup (C : VC Y X own cc nL ret fr lo) {dflt : Int} {ps : Array (Int × Int)} {len : Nat} {x : Int32} {off : Int} (tgt : Nat) (hd : decode cc pc = .ok (.lookupswitch dflt ps, len)) (hp : (ps.toList.zip (ps.toList.drop 1)).all (fun (a, next) => a.1 < next.1) = true) (ho : Op.lookupswitch.offset ps.toList dflt x.toInt = off) (ht : (pc : Int) + off = (tgt : Int)) (k : VJ Y X K nL tgt L st σ) : VJ Y X K nL pc L (.int x :: st) σ := fun H locs ls hP hS h => lv_lookup C.hx C.hb hd hp ho ht (k H locs ls hP hS h)
/-- an int field -/
theorem vv_geti (C : VC Y X own cc nL ret fr lo) {ci N d idx : Nat} {Cn : String} {T : u_T} {fl : List Nat} (hk : vv_Kc ci Cn T N) (hs : d < Y.2.2.2.2.2 ∧ vv_sh Y d = .inl (ci, fl)) (k : Nat) (hkN : k < N) (hf : fl[k]? = some 0) (hl : Cond.fieldLink own idx (T k).1 (T k).2.1 (T k).2.2.1 ∈ lw_ok) (hd : decode cc pc = .ok (.getfield idx, 3)) (kk : VJ Y X K nL (pc + 3) L (.int (σ d k) :: st) σ) : VJ Y X K nL pc L (.ref (vv_q Y d) :: st) σ := fun H locs ls hP hS h => by
  have he : (vv_w Y σ)[d]? = some (vv_q Y d, .inr (ci, vv_fs Y.2.2.2.1 (σ d) 0 fl)) := by rw [vv_W_get hs.1]; rw [show Y.2.2.2.2.1 d = .inl (ci, fl) from hs.2]; rfl
  have hv := vv_fs_int (q := Y.2.2.2.1) (row := σ d) fl 0 k hf
  rw [Nat.zero_add] at hv
  exact va_get C.hx C.hb C.hts hk.2.1 C.hown C.hK hP d he hk.1 k hkN (C.hts _ hl) (fun _ h9 => h9) hv hd (kk H locs ls hP hS h)
/-- a field that is a cell -/
theorem vv_getr (C : VC Y X own cc nL ret fr lo) {ci N d idx r : Nat} {Cn : String} {T : u_T} {fl : List Nat} (hk : vv_Kc ci Cn T N) (hs : d < Y.2.2.2.2.2 ∧ vv_sh Y d = .inl (ci, fl)) (k : Nat) (hkN : k < N) (hf : fl[k]? = some (r + 1)) (hl : Cond.fieldLink own idx (T k).1 (T k).2.1 (T k).2.2.1 ∈ lw_ok) (hd : decode cc pc = .ok (.getfield idx, 3)) (kk : VJ Y X K nL (pc + 3) L (.ref (vv_q Y r) :: st) σ) : VJ Y X K nL pc L (.ref (vv_q Y d) :: st) σ := fun H locs ls hP hS h => by
  have he : (vv_w Y σ)[d]? = some (vv_q Y d, .inr (ci, vv_fs Y.2.2.2.1 (σ d) 0 fl)) := by rw [vv_W_get hs.1]; rw [show Y.2.2.2.2.1 d = .inl (ci, fl) from hs.2]; rfl
  exact va_get C.hx C.hb C.hts hk.2.1 C.hown C.hK hP d he hk.1 k hkN (C.hts _ hl) (fun _ h9 => h9) (vv_fs_ref (q := Y.2.2.2.1) (row := σ d) fl 0 k hf) hd (kk H locs ls hP hS h)
theorem vv_puti (C : VC Y X own cc nL ret fr lo) {ci N d idx : Nat} {Cn : String} {T : u_T} {fl : List Nat} {v : Int32} (hk : vv_Kc ci Cn T N) (hs : d < Y.2.2.2.2.2 ∧ vv_sh Y d = .inl (ci, fl)) (k : Nat) (hkN : k < N) (hf : fl[k]? = some 0) (hp : parseFieldDescriptor (T k).2.2.1 = some .int ∧ (T k).2.2.2 = false) (hl : Cond.fieldLink own idx (T k).1 (T k).2.1 (T k).2.2.1 ∈ lw_ok) (hd : decode cc pc = .ok (.putfield idx, 3)) (kk : ∀ σ', σ' = vv_up σ d k v → VJ Y X K nL (pc + 3) L st σ') : VJ Y X K nL pc L (.int v :: .ref (vv_q Y d) :: st) σ := fun H locs ls hP hS h => by
  have he : (vv_w Y σ)[d]? = some (vv_q Y d, .inr (ci, vv_fs Y.2.2.2.1 (σ d) 0 fl)) := by rw [vv_W_get hs.1]; rw [show Y.2.2.2.2.1 d = .inl (ci, fl) from hs.2]; rfl
  obtain ⟨ty0, hty⟩ := hk.2.2.2
  have hlen : k < (vv_fs Y.2.2.2.1 (σ d) 0 fl).length := by rw [vv_fs_len]; exact (List.getElem?_eq_some_iff.mp hf).1
  refine va_put C.hx C.hb C.hts hk.2.1 ty0 hty hk.2.2.1 C.hown C.hK hP (C.hD σ) hS d he hk.1 k hkN (C.hts _ hl) (fun _ h9 => h9) hp.2 (ty := .int) (v := .int v) hp.1 rfl rfl hlen hd (fun H1 locs1 hP1 _ hS1 => kk _ rfl H1 locs1 ls ?_ hS1 h)
  have e1 := vv_fs_set (q := Y.2.2.2.1) (row := σ d) (v := v) fl 0 k hf
  rw [Nat.zero_add] at e1
  rw [e1] at hP1
  have e2 := vv_W_set (w := Y.2.2.2.2) (ty := Y.2.2.1) (q := Y.2.2.2.1) (σ := σ) (k := d) (j := k) (v := v) (e := .inr (ci, vv_fs Y.2.2.2.1 (upd (σ d) k v) 0 fl)) hs.1 (by rw [show Y.2.2.2.2.1 d = .inl (ci, fl) from hs.2]; rfl)
  show va_P Y.2.1 vv_cl (vv_W Y.2.2.2.2 Y.2.2.1 Y.2.2.2.1 (vv_up σ d k v)) H1
  rw [← e2]
  exact hP1
theorem vv_iald (C : VC Y X own cc nL ret fr lo) {a n : Nat} {i : Int32} (hs : a < Y.2.2.2.2.2 ∧ vv_sh Y a = .inr (.inl n)) (hi : vp_in i n) (hd : decode cc pc = .ok (.iaload, 1)) (kk : VJ Y X K nL (pc + 1) L (.int (σ a i.toNatClampNeg) :: st) σ) : VJ Y X K nL pc L (.int i :: .ref (vv_q Y a) :: st) σ := fun H locs ls hP hS h => by
  have he : (vv_w Y σ)[a]? = some (vv_q Y a, .inl (Y.2.2.1 0, n, .inl (σ a))) := by rw [vv_W_get hs.1]; rw [show Y.2.2.2.2.1 a = .inr (.inl n) from hs.2]; rfl
  exact va_iald C.hx C.hb C.hK hP a 0 he rfl hi hd (kk H locs ls hP hS h)
theorem vv_iast (C : VC Y X own cc nL ret fr lo) {a n : Nat} {i v : Int32} (hs : a < Y.2.2.2.2.2 ∧ vv_sh Y a = .inr (.inl n)) (hi : vp_in i n) (hd : decode cc pc = .ok (.iastore, 1)) (kk : ∀ σ', σ' = vv_up σ a i.toNatClampNeg v → VJ Y X K nL (pc + 1) L st σ') : VJ Y X K nL pc L (.int v :: .int i :: .ref (vv_q Y a) :: st) σ := fun H locs ls hP hS h => by
  have he : (vv_w Y σ)[a]? = some (vv_q Y a, .inl (Y.2.2.1 0, n, .inl (σ a))) := by rw [vv_W_get hs.1]; rw [show Y.2.2.2.2.1 a = .inr (.inl n) from hs.2]; rfl
  refine va_iast C.hx C.hb C.hK hP (C.hD σ) hS a 0 he rfl hi hd (fun H1 locs1 hP1 _ hS1 => kk _ rfl H1 locs1 ls ?_ hS1 h)
  have e2 := vv_W_set (w := Y.2.2.2.2) (ty := Y.2.2.1) (q := Y.2.2.2.1) (σ := σ) (k := a) (j := i.toNatClampNeg) (v := v) (e := .inl (Y.2.2.1 0, n, .inl (upd (σ a) i.toNatClampNeg v))) hs.1 (by rw [show Y.2.2.2.2.1 a = .inr (.inl n) from hs.2]; rfl)
  show va_P Y.2.1 vv_cl (vv_W Y.2.2.2.2 Y.2.2.1 Y.2.2.2.1 (vv_up σ a i.toNatClampNeg v)) H1
  rw [← e2]
  exact hP1
/-- a place of an array of objects -/
theorem vv_aaldO (C : VC Y X own cc nL ret fr lo) {a n b st' : Nat} {i : Int32} (hs : a < Y.2.2.2.2.2 ∧ vv_sh Y a = .inr (.inr (1, n, b, st'))) (hi : vp_in i n) (hd : decode cc pc = .ok (.aaload, 1)) (kk : VJ Y X K nL (pc + 1) L (.ref (vv_q Y (b + st' * i.toNatClampNeg)) :: st) σ) : VJ Y X K nL pc L (.int i :: .ref (vv_q Y a) :: st) σ := fun H locs ls hP hS h => by
  have he : (vv_w Y σ)[a]? = some (vv_q Y a, .inl (Y.2.2.1 1, n, .inr (.inr (.inr (.inr (fun j => some (vv_q Y (b + st' * j)))))))) := by rw [vv_W_get hs.1]; rw [show Y.2.2.2.2.1 a = .inr (.inr (1, n, b, st')) from hs.2]; rfl
  exact va_aldq C.hx C.hb C.hK hP a 1 he rfl hi hd (kk H locs ls hP hS h)
/-- a row of an array of arrays -/
theorem vv_aaldA (C : VC Y X own cc nL ret fr lo) {a n b st' : Nat} {i : Int32} (hs : a < Y.2.2.2.2.2 ∧ vv_sh Y a = .inr (.inr (2, n, b, st'))) (hi : vp_in i n) (hd : decode cc pc = .ok (.aaload, 1)) (kk : VJ Y X K nL (pc + 1) L (.ref (vv_q Y (b + st' * i.toNatClampNeg)) :: st) σ) : VJ Y X K nL pc L (.int i :: .ref (vv_q Y a) :: st) σ := fun H locs ls hP hS h => by
  have he : (vv_w Y σ)[a]? = some (vv_q Y a, .inl (Y.2.2.1 2, n, .inr (.inr (.inr (.inr (fun j => some (vv_q Y (b + st' * j)))))))) := by rw [vv_W_get hs.1]; rw [show Y.2.2.2.2.1 a = .inr (.inr (2, n, b, st')) from hs.2]; rfl
  have hlt : i.toNatClampNeg < n := Nat.not_le.mp fun q => hi (Or.inr q)
  exact W.aald (v := .ref (vv_q Y (b + st' * i.toNatClampNeg))) (ty := .array .int) C.hx C.hb (hP a _ he) ((C.hK.2 2 _ rfl).1 n (fun j => va_rf (some (vv_q Y (b + st' * j))))) rfl (fun q => by cases q) (by show ¬ (i < 0 ∨ (arrV _ _ _).slots.size ≤ _); rw [arrV_size]; exact hi) (by show (arrV _ _ _).slots[_]? = _; rw [arrV_read _ _ hlt]; rfl) rfl rfl hd (kk H locs ls hP hS h)
theorem vv_max (C : VC Y X own cc nL ret fr lo) {index : Nat} {x y : Int32} (hl : Cond.methodLink own index Lib.Math.max.name ∈ lw_ok) (hm : Cond.static Lib.Math.max.name ∈ lw_ok ∧ Cond.initialized "java/lang/Math" ∈ lw_ok ∧ Cond.code Lib.Math.max.name Lib.Math.max.code 2 (some .int) ∈ lw_ok) (hf : 1 ≤ fr) (hlo : (st.map fun v => v.category).sum + 13 ≤ lo) (hd : decode cc pc = .ok (.invokestatic index, 3)) (kk : VJ Y X K nL (pc + 3) L (.int (if x < y then y else x) :: st) σ) : VJ Y X K nL pc L (.int y :: .int x :: st) σ := fun H locs ls hP hS h =>
  va_mmax C.hx C.hb (C.hml.trans h.1.symm) C.hown (C.hts _ hl) (C.hts _ hm.1) (C.hts _ hm.2.1) (C.hts _ hm.2.2) (by rw [C.hR]; exact hf) (by rw [C.hR]; exact hlo) (Nat.zero_le _) (Nat.zero_le _) hd (kk H locs ls hP hS h)
theorem vv_min (C : VC Y X own cc nL ret fr lo) {index : Nat} {x y : Int32} (hl : Cond.methodLink own index Lib.Math.min.name ∈ lw_ok) (hm : Cond.static Lib.Math.min.name ∈ lw_ok ∧ Cond.initialized "java/lang/Math" ∈ lw_ok ∧ Cond.code Lib.Math.min.name Lib.Math.min.code 2 (some .int) ∈ lw_ok) (hf : 1 ≤ fr) (hlo : (st.map fun v => v.category).sum + 13 ≤ lo) (hd : decode cc pc = .ok (.invokestatic index, 3)) (kk : VJ Y X K nL (pc + 3) L (.int (if y < x then y else x) :: st) σ) : VJ Y X K nL pc L (.int y :: .int x :: st) σ := fun H locs ls hP hS h =>
  va_mmin C.hx C.hb (C.hml.trans h.1.symm) C.hown (C.hts _ hl) (C.hts _ hm.1) (C.hts _ hm.2.1) (C.hts _ hm.2.2) (by rw [C.hR]; exact hf) (by rw [C.hR]; exact hlo) (Nat.zero_le _) (Nat.zero_le _) hd (kk H locs ls hP hS h)
theorem vv_B_of (C : VC Y X own cc nL ret fr lo) {H : Heap} {t : State} (hP : va_P Y.2.1 vv_cl (vv_w Y σ) H) (ht : t.heap = H) (hW : X.1.2.2.2.1.WarmedH t.vm) : vv_B Y σ t := ⟨by rw [ht]; exact hP, va_K.moved hW.alike C.hK⟩
theorem vv_iret {post : Int32 → vv_S → Prop} {v : Int32} (C : VC Y X own cc nL (some .int) fr lo) (hd : decode cc pc = .ok (.ireturn, 1)) (h : post v σ) : VJ Y X (va_Qi post (vv_B Y) X.2) nL pc L [.int v] σ := fun H locs ls hP hS _ =>
  W.iret C.hx C.hb C.hr (fun t ht hW => ⟨⟨v, σ, rfl, h, vv_B_of C hP ht hW⟩, hS.F ht⟩) hS.2.2 hd C.hlk
theorem vv_zret {post : Int32 → vv_S → Prop} {v : Int32} (C : VC Y X own cc nL (some .boolean) fr lo) (hv : narrow .boolean (.int v) = .int v) (hd : decode cc pc = .ok (.ireturn, 1)) (h : post v σ) : VJ Y X (va_Qi post (vv_B Y) X.2) nL pc L [.int v] σ := fun H locs ls hP hS _ =>
  W.zret C.hx C.hb C.hr hv (fun t ht hW => ⟨⟨v, σ, rfl, h, vv_B_of C hP ht hW⟩, hS.F ht⟩) hS.2.2 hd C.hlk
theorem vv_vret {post : vv_S → Prop} (C : VC Y X own cc nL none fr lo) (hd : decode cc pc = .ok (.return_, 1)) (h : post σ) : VJ Y X (va_Qv post (vv_B Y) X.2) nL pc L [] σ := fun H locs ls hP hS _ =>
  W.vret C.hx C.hb C.hr (fun t ht hW => ⟨⟨σ, rfl, h, vv_B_of C hP ht hW⟩, hS.F ht⟩) hS.2.2 hd C.hlk
theorem vv_aret {post : vv_S → Prop} {r : Nat} {n : String} (C : VC Y X own cc nL (some (.object n)) fr lo) (hd : decode cc pc = .ok (.areturn, 1)) (h : post σ) : VJ Y X (va_Qr post (fun u a t => a = vv_q Y r ∧ vv_B Y u t) X.2) nL pc L [.ref (vv_q Y r)] σ := fun H locs ls hP hS _ =>
  W.aret C.hx C.hb C.hr (Or.inl ⟨n, rfl⟩) (Or.inr ⟨_, rfl⟩) (fun t ht hW => ⟨⟨σ, vv_q Y r, rfl, h, rfl, vv_B_of C hP ht hW⟩, hS.F ht⟩) hS.2.2 hd C.hlk
end VR
end
section
theorem lw_good {y : MethodName} {cc : ByteArray} {maxL : Nat} {ret : Option FieldType} (h : Cond.code y cc maxL ret ∈ lw_ok) : GoodIn lw_ok (.code y cc maxL ret :: lw_ok) := by
  intro w hw
  have hm : w ∈ lw_ok := by
    rcases List.mem_cons.mp hw with rfl | h2
    · exact h
    · exact h2
  exact ⟨hm, good_of_word (List.mem_filter.mp hm).2⟩
/-- contracts over a world of fixed shape: from σ, with these arguments, what 'post' says comes of it -/
def vv_MI (Y : vv_Y) (y : MethodName) (cc : ByteArray) (maxL : Nat) (ret : Option FieldType) (fr lo : Nat) (av : List Value) (σ : vv_S) (post : Int32 → vv_S → Prop) : Prop :=
  ∀ sz : Nat, Met Y.1 y (.code y cc maxL ret :: lw_ok) { frames := fr, cells := 0, slots := 0, locals := lo } (va_Pc av (fun U => U.heap.size = sz ∧ vv_B Y σ U ∧ va_D (fun _ => True) (vv_w Y σ))) (va_Qi post (vv_B Y) (va_A (vv_w Y σ) sz)) 0 0 (va_A (vv_w Y σ) sz)
def vv_MV (Y : vv_Y) (y : MethodName) (cc : ByteArray) (maxL : Nat) (ret : Option FieldType) (fr lo : Nat) (av : List Value) (σ : vv_S) (post : vv_S → Prop) : Prop :=
  ∀ sz : Nat, Met Y.1 y (.code y cc maxL ret :: lw_ok) { frames := fr, cells := 0, slots := 0, locals := lo } (va_Pc av (fun U => U.heap.size = sz ∧ vv_B Y σ U ∧ va_D (fun _ => True) (vv_w Y σ))) (va_Qv post (vv_B Y) (va_A (vv_w Y σ) sz)) 0 0 (va_A (vv_w Y σ) sz)
/-- the answer is the cell r -/
def vv_MR (Y : vv_Y) (y : MethodName) (cc : ByteArray) (maxL : Nat) (ret : Option FieldType) (fr lo : Nat) (av : List Value) (σ : vv_S) (r : Nat) (post : vv_S → Prop) : Prop :=
  ∀ sz : Nat, Met Y.1 y (.code y cc maxL ret :: lw_ok) { frames := fr, cells := 0, slots := 0, locals := lo } (va_Pc av (fun U => U.heap.size = sz ∧ vv_B Y σ U ∧ va_D (fun _ => True) (vv_w Y σ))) (va_Qr post (fun u a t => a = vv_q Y r ∧ vv_B Y u t) (va_A (vv_w Y σ) sz)) 0 0 (va_A (vv_w Y σ) sz)
section VM
variable {Y : vv_Y} {y : MethodName} {cc : ByteArray} {maxL : Nat} {ret : Option FieldType} {fr lo : Nat} {av : List Value} {σ : vv_S}
theorem vv_ofI {post : Int32 → vv_S → Prop} (hy : plainName y.cls = true) (hlen : (lg_sl av).length ≤ maxL) (body : ∀ X : vv_X, VC Y X y.cls cc maxL ret fr lo → VJ Y X (va_Qi post (vv_B Y) X.2) maxL 0 (lv_args 0 av) [] σ) : vv_MI Y y cc maxL ret fr lo av σ post := by
  intro sz
  refine Met.ofW (cc := cc) (maxL := maxL) (ret := ret) hy rfl ?_
  intro p e s m args below meth c s₁ B hml hv
  obtain ⟨rfl, hsz, ⟨hP, hK⟩, hD0⟩ := hv
  subst hsz
  have hts := atoms_spec (ws := .code y cc maxL ret :: lw_ok) B.pre
  have hb := body ((p, e, _, s, m, av.toArray, below, meth, c), va_A (vv_w Y σ) s.heap.size) ⟨B.exec, B.bytes, hml, findClass_of_methodNamed B.named, fun w hw => hts w (List.mem_cons_of_mem _ hw), hK, fun q h => Or.inr h, B.notSynchronized, vv_W_D (hD0.self (sz := s.heap.size)), B.returns, rfl⟩
  have hl := lv_entry av (n := maxL) hlen
  rw [lg_entry_eq]
  exact hb s.heap [] _ hP va_S.rf hl
theorem vv_ofV {post : vv_S → Prop} (hy : plainName y.cls = true) (hlen : (lg_sl av).length ≤ maxL) (body : ∀ X : vv_X, VC Y X y.cls cc maxL ret fr lo → VJ Y X (va_Qv post (vv_B Y) X.2) maxL 0 (lv_args 0 av) [] σ) : vv_MV Y y cc maxL ret fr lo av σ post := by
  intro sz
  refine Met.ofW (cc := cc) (maxL := maxL) (ret := ret) hy rfl ?_
  intro p e s m args below meth c s₁ B hml hv
  obtain ⟨rfl, hsz, ⟨hP, hK⟩, hD0⟩ := hv
  subst hsz
  have hts := atoms_spec (ws := .code y cc maxL ret :: lw_ok) B.pre
  have hb := body ((p, e, _, s, m, av.toArray, below, meth, c), va_A (vv_w Y σ) s.heap.size) ⟨B.exec, B.bytes, hml, findClass_of_methodNamed B.named, fun w hw => hts w (List.mem_cons_of_mem _ hw), hK, fun q h => Or.inr h, B.notSynchronized, vv_W_D (hD0.self (sz := s.heap.size)), B.returns, rfl⟩
  have hl := lv_entry av (n := maxL) hlen
  rw [lg_entry_eq]
  exact hb s.heap [] _ hP va_S.rf hl
theorem vv_ofR {r : Nat} {post : vv_S → Prop} (hy : plainName y.cls = true) (hlen : (lg_sl av).length ≤ maxL) (body : ∀ X : vv_X, VC Y X y.cls cc maxL ret fr lo → VJ Y X (va_Qr post (fun u a t => a = vv_q Y r ∧ vv_B Y u t) X.2) maxL 0 (lv_args 0 av) [] σ) : vv_MR Y y cc maxL ret fr lo av σ r post := by
  intro sz
  refine Met.ofW (cc := cc) (maxL := maxL) (ret := ret) hy rfl ?_
  intro p e s m args below meth c s₁ B hml hv
  obtain ⟨rfl, hsz, ⟨hP, hK⟩, hD0⟩ := hv
  subst hsz
  have hts := atoms_spec (ws := .code y cc maxL ret :: lw_ok) B.pre
  have hb := body ((p, e, _, s, m, av.toArray, below, meth, c), va_A (vv_w Y σ) s.heap.size) ⟨B.exec, B.bytes, hml, findClass_of_methodNamed B.named, fun w hw => hts w (List.mem_cons_of_mem _ hw), hK, fun q h => Or.inr h, B.notSynchronized, vv_W_D (hD0.self (sz := s.heap.size)), B.returns, rfl⟩
  have hl := lv_entry av (n := maxL) hlen
  rw [lg_entry_eq]
  exact hb s.heap [] _ hP va_S.rf hl
end VM
/-- what a call needs of the tables -/
def vv_yok (y : MethodName) (cc : ByteArray) (maxL : Nat) (ret : Option FieldType) (n : Nat) : Prop := Cond.code y cc maxL ret ∈ lw_ok ∧ Cond.initialized y.cls ∈ lw_ok ∧ (y.cls ≠ "java/lang/invoke/MethodHandle" ∧ y.cls ≠ "java/lang/invoke/VarHandle" ∧ (parseMethodDescriptor y.desc).map (fun d => d.parameters.length) = some n)
def vv_vok (y : MethodName) : Prop := Cond.instanceMethod y ∈ lw_ok ∧ Cond.selects y.cls y y ∈ lw_ok
section VCA
variable {Y : vv_Y} {X : vv_X} {K : Array Value → State → Outcome → State → Prop} {own : String} {cc : ByteArray} {nL : Nat} {ret : Option FieldType} {fr lo pc : Nat} {L L' : List (Nat × Value)} {st : List Value} {σ : vv_S}
variable {y : MethodName} {cc2 : ByteArray} {maxL2 : Nat} {ret2 : Option FieldType} {fr2 lo2 n idx b ci N r : Nat} {fl : List Nat} {T : u_T} {As rest : List Value}
theorem vv_cwB (C : VC Y X own cc nL ret fr lo) (hy : vv_yok y cc2 maxL2 ret2 n) (hl : Cond.methodLink own idx y ∈ lw_ok) (hR : fr2 + 1 ≤ fr ∧ 8 + (maxL2 + 11) + lo2 ≤ lo) : CallB X.1.2.2.1 X.1.2.2.2.1 X.1.2.2.2.2.2.1 own idx y cc2 maxL2 ret2 (.code y cc2 maxL2 ret2 :: lw_ok) { frames := fr2, cells := 0, slots := 0, locals := lo2 } 0 0 n :=
  callB_of n C.hts (lw_good hy.1) rfl rfl rfl (C.hts _ hy.2.1) (C.hts _ hl) hy.2.2 (by rw [C.hR]; exact hR)
theorem vv_cnB (C : VC Y X own cc nL ret fr lo) {host : String} (hy : vv_yok y cc2 maxL2 ret2 n) (hl : Cond.methodLinkNest own idx y host ∈ lw_ok) (hR : fr2 + 1 ≤ fr ∧ 8 + (maxL2 + 11) + lo2 ≤ lo) : va_CN X.1.2.2.1 X.1.2.2.2.1 X.1.2.2.2.2.2.1 own idx y host cc2 maxL2 ret2 (.code y cc2 maxL2 ret2 :: lw_ok) { frames := fr2, cells := 0, slots := 0, locals := lo2 } 0 0 n :=
  va_cnB n C.hts (lw_good hy.1) rfl rfl rfl (C.hts _ hl) (C.hts _ hy.2.1) hy.2.2 (by rw [C.hR]; exact hR)
theorem vv_blind {av : List Value} {sz : Nat} : FrameBlind (va_Pc av (fun U => U.heap.size = sz ∧ vv_B Y σ U ∧ va_D (fun _ => True) (vv_w Y σ))) := fun a U g mk q => by
  obtain ⟨q0, q1, ⟨qP, qK⟩, qD⟩ := q
  exact ⟨q0, q1, ⟨qP, va_K.moved (u := U) (U := U.calling g mk a) (Vm.Alike.refl U.vm) qK⟩, qD⟩
theorem vv_frees (C : VC Y X own cc nL ret fr lo) {H : Heap} {locs : List Loc} (hS : va_S X.2 X.1.2.2.2.1.heap H locs) : ∀ q, va_A (vv_w Y σ) H.size q → X.2 q := by
  intro q h
  rcases h with ⟨k, e, h⟩ | h
  · exact (C.hD σ).2 k _ h
  · exact C.hA q (Nat.le_trans hS.1 h)
theorem vv_pre (C : VC Y X own cc nL ret fr lo) {H : Heap} (hP : va_P Y.2.1 vv_cl (vv_w Y σ) H) (av : List Value) : ∀ U : State, U.heap = H → X.1.2.2.2.1.WarmedH U.vm → va_Pc av (fun U => U.heap.size = H.size ∧ vv_B Y σ U ∧ va_D (fun _ => True) (vv_w Y σ)) av.toArray U :=
  fun U hU hW => ⟨rfl, by rw [hU], vv_B_of C hP hU hW, (C.hD σ).weaken (fun _ _ _ _ => trivial)⟩
theorem vv_cV (C : VC Y X own cc nL ret fr lo) (hy : vv_yok y cc2 maxL2 ret2 n) (hv : vv_vok y) (hl : Cond.methodLink own idx y ∈ lw_ok) (hR : fr2 + 1 ≤ fr ∧ 8 + (maxL2 + 11) + lo2 ≤ lo) : CallW X.1.2.2.1 X.1.2.2.2.1 X.1.2.2.2.2.2.1 own y.cls idx y cc2 maxL2 ret2 (.code y cc2 maxL2 ret2 :: lw_ok) { frames := fr2, cells := 0, slots := 0, locals := lo2 } 0 0 n :=
  ⟨vv_cwB C hy hl hR, C.hts _ hv.1, C.hts _ hv.2⟩
theorem vv_callI {post : Int32 → vv_S → Prop} (C : VC Y X own cc nL ret fr lo) (hy : vv_yok y cc2 maxL2 ret2 n) (hv : vv_vok y) (hl : Cond.methodLink own idx y ∈ lw_ok) (hk : vv_cl[ci]? = some (y.cls, T, N)) (hs : b < Y.2.2.2.2.2 ∧ vv_sh Y b = .inl (ci, fl)) (hd : decode cc pc = .ok (.invokevirtual idx, 3)) (hM : vv_MI Y y cc2 maxL2 ret2 fr2 lo2 (.ref (vv_q Y b) :: As) σ post) (hn : As.length = n) (hst : As.reverse ++ .ref (vv_q Y b) :: rest = st) (hR : fr2 + 1 ≤ fr ∧ 8 + (maxL2 + 11) + lo2 ≤ lo) (hW : (rest.map fun v => v.category).sum ≤ 8) (kk : ∀ r σ', post r σ' → VJ Y X K nL (pc + 3) L (.int r :: rest) σ') : VJ Y X K nL pc L st σ := by
  subst hst
  intro H locs ls hP hS h
  have he : (vv_w Y σ)[b]? = some (vv_q Y b, .inr (ci, vv_fs Y.2.2.2.1 (σ b) 0 fl)) := by rw [vv_W_get hs.1]; rw [show Y.2.2.2.2.1 b = .inl (ci, fl) from hs.2]; rfl
  refine va_calli (va_runV (As := As) (rest := rest) C.fix (hM H.size) (vv_cV C hy hv hl hR) ⟨vv_blind, va_recv C.hK hP hk he, vv_pre C hP _⟩ rfl hn h.1 rfl (lv_room hW) hd ⟨Nat.zero_le _, Nat.zero_le _⟩) hS (fun q _ h => vv_frees C hS q h) (vv_frees C hS) (fun r σ' t H1 locs1 ht hvm hw hB hz1 hk1 hS1 => ?_)
  exact kk r σ' hw H1 locs1 ls (by rw [← ht]; exact hB.1) hS1 h
theorem vv_callV {post : vv_S → Prop} (C : VC Y X own cc nL ret fr lo) (hy : vv_yok y cc2 maxL2 ret2 n) (hv : vv_vok y) (hl : Cond.methodLink own idx y ∈ lw_ok) (hk : vv_cl[ci]? = some (y.cls, T, N)) (hs : b < Y.2.2.2.2.2 ∧ vv_sh Y b = .inl (ci, fl)) (hd : decode cc pc = .ok (.invokevirtual idx, 3)) (hM : vv_MV Y y cc2 maxL2 ret2 fr2 lo2 (.ref (vv_q Y b) :: As) σ post) (hn : As.length = n) (hst : As.reverse ++ .ref (vv_q Y b) :: rest = st) (hR : fr2 + 1 ≤ fr ∧ 8 + (maxL2 + 11) + lo2 ≤ lo) (hW : (rest.map fun v => v.category).sum ≤ 8) (kk : ∀ σ', post σ' → VJ Y X K nL (pc + 3) L rest σ') : VJ Y X K nL pc L st σ := by
  subst hst
  intro H locs ls hP hS h
  have he : (vv_w Y σ)[b]? = some (vv_q Y b, .inr (ci, vv_fs Y.2.2.2.1 (σ b) 0 fl)) := by rw [vv_W_get hs.1]; rw [show Y.2.2.2.2.1 b = .inl (ci, fl) from hs.2]; rfl
  refine va_callv (va_runV (As := As) (rest := rest) C.fix (hM H.size) (vv_cV C hy hv hl hR) ⟨vv_blind, va_recv C.hK hP hk he, vv_pre C hP _⟩ rfl hn h.1 rfl (lv_room hW) hd ⟨Nat.zero_le _, Nat.zero_le _⟩) hS (fun q _ h => vv_frees C hS q h) (vv_frees C hS) (fun σ' t H1 locs1 ht hvm hw hB hz1 hk1 hS1 => ?_)
  exact kk σ' hw H1 locs1 ls (by rw [← ht]; exact hB.1) hS1 h
theorem vv_callR {post : vv_S → Prop} (C : VC Y X own cc nL ret fr lo) (hy : vv_yok y cc2 maxL2 ret2 n) (hv : vv_vok y) (hl : Cond.methodLink own idx y ∈ lw_ok) (hk : vv_cl[ci]? = some (y.cls, T, N)) (hs : b < Y.2.2.2.2.2 ∧ vv_sh Y b = .inl (ci, fl)) (hd : decode cc pc = .ok (.invokevirtual idx, 3)) (hM : vv_MR Y y cc2 maxL2 ret2 fr2 lo2 (.ref (vv_q Y b) :: As) σ r post) (hn : As.length = n) (hst : As.reverse ++ .ref (vv_q Y b) :: rest = st) (hR : fr2 + 1 ≤ fr ∧ 8 + (maxL2 + 11) + lo2 ≤ lo) (hW : (rest.map fun v => v.category).sum ≤ 8) (kk : ∀ σ', post σ' → VJ Y X K nL (pc + 3) L (.ref (vv_q Y r) :: rest) σ') : VJ Y X K nL pc L st σ := by
  subst hst
  intro H locs ls hP hS h
  have he : (vv_w Y σ)[b]? = some (vv_q Y b, .inr (ci, vv_fs Y.2.2.2.1 (σ b) 0 fl)) := by rw [vv_W_get hs.1]; rw [show Y.2.2.2.2.1 b = .inl (ci, fl) from hs.2]; rfl
  refine va_callr (va_runV (As := As) (rest := rest) C.fix (hM H.size) (vv_cV C hy hv hl hR) ⟨vv_blind, va_recv C.hK hP hk he, vv_pre C hP _⟩ rfl hn h.1 rfl (lv_room hW) hd ⟨Nat.zero_le _, Nat.zero_le _⟩) hS (fun q _ h => vv_frees C hS q h) (vv_frees C hS) (fun σ' ra t H1 locs1 ht hvm hw hB hz1 hk1 hS1 => ?_)
  obtain ⟨rfl, hB⟩ := hB
  exact kk σ' hw H1 locs1 ls (by rw [← ht]; exact hB.1) hS1 h
/-- a static method of the same class -/
theorem vv_callS {post : Int32 → vv_S → Prop} (C : VC Y X own cc nL ret fr lo) (hy : vv_yok y cc2 maxL2 ret2 n) (hv : Cond.static y ∈ lw_ok) (hl : Cond.methodLink own idx y ∈ lw_ok) (hd : decode cc pc = .ok (.invokestatic idx, 3)) (hM : vv_MI Y y cc2 maxL2 ret2 fr2 lo2 As σ post) (hn : As.length = n) (hst : As.reverse ++ rest = st) (hR : fr2 + 1 ≤ fr ∧ 8 + (maxL2 + 11) + lo2 ≤ lo) (hW : (rest.map fun v => v.category).sum ≤ 8) (kk : ∀ r σ', post r σ' → VJ Y X K nL (pc + 3) L (.int r :: rest) σ') : VJ Y X K nL pc L st σ := by
  subst hst
  intro H locs ls hP hS h
  refine va_calli (va_runS (As := As) (rest := rest) C.fix (hM H.size) ⟨vv_cwB C hy hl hR, C.hts _ hv⟩ ⟨vv_blind, vv_pre C hP _⟩ rfl hn h.1 rfl (lv_room hW) hd ⟨Nat.zero_le _, Nat.zero_le _⟩) hS (fun q _ h => vv_frees C hS q h) (vv_frees C hS) (fun r σ' t H1 locs1 ht hvm hw hB hz1 hk1 hS1 => ?_)
  exact kk r σ' hw H1 locs1 ls (by rw [← ht]; exact hB.1) hS1 h
theorem vv_callSv {post : vv_S → Prop} (C : VC Y X own cc nL ret fr lo) (hy : vv_yok y cc2 maxL2 ret2 n) (hv : Cond.static y ∈ lw_ok) (hl : Cond.methodLink own idx y ∈ lw_ok) (hd : decode cc pc = .ok (.invokestatic idx, 3)) (hM : vv_MV Y y cc2 maxL2 ret2 fr2 lo2 As σ post) (hn : As.length = n) (hst : As.reverse ++ rest = st) (hR : fr2 + 1 ≤ fr ∧ 8 + (maxL2 + 11) + lo2 ≤ lo) (hW : (rest.map fun v => v.category).sum ≤ 8) (kk : ∀ σ', post σ' → VJ Y X K nL (pc + 3) L rest σ') : VJ Y X K nL pc L st σ := by
  subst hst
  intro H locs ls hP hS h
  refine va_callv (va_runS (As := As) (rest := rest) C.fix (hM H.size) ⟨vv_cwB C hy hl hR, C.hts _ hv⟩ ⟨vv_blind, vv_pre C hP _⟩ rfl hn h.1 rfl (lv_room hW) hd ⟨Nat.zero_le _, Nat.zero_le _⟩) hS (fun q _ h => vv_frees C hS q h) (vv_frees C hS) (fun σ' t H1 locs1 ht hvm hw hB hz1 hk1 hS1 => ?_)
  exact kk σ' hw H1 locs1 ls (by rw [← ht]; exact hB.1) hS1 h
/-- a static method of a nest mate -/
theorem vv_callSN {post : Int32 → vv_S → Prop} {host : String} (C : VC Y X own cc nL ret fr lo) (hy : vv_yok y cc2 maxL2 ret2 n) (hv : Cond.static y ∈ lw_ok) (hl : Cond.methodLinkNest own idx y host ∈ lw_ok) (hd : decode cc pc = .ok (.invokestatic idx, 3)) (hM : vv_MI Y y cc2 maxL2 ret2 fr2 lo2 As σ post) (hn : As.length = n) (hst : As.reverse ++ rest = st) (hR : fr2 + 1 ≤ fr ∧ 8 + (maxL2 + 11) + lo2 ≤ lo) (hW : (rest.map fun v => v.category).sum ≤ 8) (kk : ∀ r σ', post r σ' → VJ Y X K nL (pc + 3) L (.int r :: rest) σ') : VJ Y X K nL pc L st σ := by
  subst hst
  intro H locs ls hP hS h
  refine va_calli (va_runSN (As := As) (rest := rest) C.fix (hM H.size) ⟨vv_cnB C hy hl hR, C.hts _ hv, trivial⟩ ⟨vv_blind, vv_pre C hP _⟩ rfl hn h.1 rfl (lv_room hW) hd ⟨Nat.zero_le _, Nat.zero_le _⟩) hS (fun q _ h => vv_frees C hS q h) (vv_frees C hS) (fun r σ' t H1 locs1 ht hvm hw hB hz1 hk1 hS1 => ?_)
  exact kk r σ' hw H1 locs1 ls (by rw [← ht]; exact hB.1) hS1 h
end VCA
/-- a place where ways meet: what follows is 'k' -/
def vv_jn {α : Type} (k : α) (f : α → Prop) : Prop := f k
theorem vv_join {α : Type} {k : α} {f : α → Prop} {P : Prop} (J : α → Prop) (h : vv_jn k f) (hk : J k) (body : ∀ k', J k' → f k' → P) : P := body k hk h
end
section
theorem zz_end : True := trivial
end
