section
-- ===== PART A: goes FIRST, ahead of the names: the tables' words, and 'selects' of the private methods out of them =====
/-- a private method of a class that the tables say can be made, by its rows of tables_1 -/
def lw_okq (q : MethodName × Nat) : Prop := (q.1.cls ≠ "java/lang/invoke/MethodHandle" ∧ q.1.cls ≠ "java/lang/invoke/VarHandle") ∧ Cond.instantiable q.1.cls q.2 ∈ tables_1 ∧ Cond.privateMethod q.1 ∈ tables_1 ∧ Cond.instanceMethod q.1 ∈ tables_1
theorem lw_p0 : lw_okq (⟨"DamOfTurf$Plan", "clear", "()V"⟩, 9) := ⟨⟨by decide +kernel, by decide +kernel⟩, List.mem_of_getElem? (i := 45) (by decide +kernel), List.mem_of_getElem? (i := 301) (by decide +kernel), List.mem_of_getElem? (i := 302) (by decide +kernel)⟩
theorem lw_p1 : lw_okq (⟨"DamOfTurf$Text", "figuresAt", "(I)I"⟩, 4) := ⟨⟨by decide +kernel, by decide +kernel⟩, List.mem_of_getElem? (i := 25) (by decide +kernel), List.mem_of_getElem? (i := 321) (by decide +kernel), List.mem_of_getElem? (i := 322) (by decide +kernel)⟩
theorem lw_p2 : lw_okq (⟨"DamOfTurf$Text", "figureAt", "(I)I"⟩, 4) := ⟨⟨by decide +kernel, by decide +kernel⟩, List.mem_of_getElem? (i := 25) (by decide +kernel), List.mem_of_getElem? (i := 325) (by decide +kernel), List.mem_of_getElem? (i := 326) (by decide +kernel)⟩
theorem lw_p3 : lw_okq (⟨"DamOfTurf$Plan", "takeItem", "(ILDamOfTurf$Text;)Z"⟩, 9) := ⟨⟨by decide +kernel, by decide +kernel⟩, List.mem_of_getElem? (i := 45) (by decide +kernel), List.mem_of_getElem? (i := 334) (by decide +kernel), List.mem_of_getElem? (i := 335) (by decide +kernel)⟩
theorem lw_p4 : lw_okq (⟨"DamOfTurf$Plan", "addCell", "(II)Z"⟩, 9) := ⟨⟨by decide +kernel, by decide +kernel⟩, List.mem_of_getElem? (i := 45) (by decide +kernel), List.mem_of_getElem? (i := 346) (by decide +kernel), List.mem_of_getElem? (i := 347) (by decide +kernel)⟩
theorem lw_p5 : lw_okq (⟨"DamOfTurf$Plan", "setBanks", "(II)Z"⟩, 9) := ⟨⟨by decide +kernel, by decide +kernel⟩, List.mem_of_getElem? (i := 45) (by decide +kernel), List.mem_of_getElem? (i := 356) (by decide +kernel), List.mem_of_getElem? (i := 357) (by decide +kernel)⟩
theorem lw_p6 : lw_okq (⟨"DamOfTurf$Plan", "setLake", "(II)Z"⟩, 9) := ⟨⟨by decide +kernel, by decide +kernel⟩, List.mem_of_getElem? (i := 45) (by decide +kernel), List.mem_of_getElem? (i := 360) (by decide +kernel), List.mem_of_getElem? (i := 361) (by decide +kernel)⟩
theorem lw_p7 : lw_okq (⟨"DamOfTurf$Brook", "flowIn", "(I)I"⟩, 8) := ⟨⟨by decide +kernel, by decide +kernel⟩, List.mem_of_getElem? (i := 51) (by decide +kernel), List.mem_of_getElem? (i := 388) (by decide +kernel), List.mem_of_getElem? (i := 389) (by decide +kernel)⟩
theorem lw_p8 : lw_okq (⟨"DamOfTurf$Brook", "rainIn", "(I)I"⟩, 8) := ⟨⟨by decide +kernel, by decide +kernel⟩, List.mem_of_getElem? (i := 51) (by decide +kernel), List.mem_of_getElem? (i := 392) (by decide +kernel), List.mem_of_getElem? (i := 393) (by decide +kernel)⟩
theorem lw_p9 : lw_okq (⟨"DamOfTurf$Dam", "survey", "()V"⟩, 16) := ⟨⟨by decide +kernel, by decide +kernel⟩, List.mem_of_getElem? (i := 137) (by decide +kernel), List.mem_of_getElem? (i := 412) (by decide +kernel), List.mem_of_getElem? (i := 413) (by decide +kernel)⟩
theorem lw_p10 : lw_okq (⟨"DamOfTurf", "isCell", "(I)Z"⟩, 11) := ⟨⟨by decide +kernel, by decide +kernel⟩, List.mem_of_getElem? (i := 17) (by decide +kernel), List.mem_of_getElem? (i := 500) (by decide +kernel), List.mem_of_getElem? (i := 501) (by decide +kernel)⟩
theorem lw_p11 : lw_okq (⟨"DamOfTurf$Dam", "wears", "(I)Z"⟩, 16) := ⟨⟨by decide +kernel, by decide +kernel⟩, List.mem_of_getElem? (i := 137) (by decide +kernel), List.mem_of_getElem? (i := 626) (by decide +kernel), List.mem_of_getElem? (i := 627) (by decide +kernel)⟩
theorem lw_p12 : lw_okq (⟨"DamOfTurf", "findBestShares", "(III)I"⟩, 11) := ⟨⟨by decide +kernel, by decide +kernel⟩, List.mem_of_getElem? (i := 17) (by decide +kernel), List.mem_of_getElem? (i := 697) (by decide +kernel), List.mem_of_getElem? (i := 698) (by decide +kernel)⟩
theorem lw_p13 : lw_okq (⟨"DamOfTurf", "waterWithShares", "(II)I"⟩, 11) := ⟨⟨by decide +kernel, by decide +kernel⟩, List.mem_of_getElem? (i := 17) (by decide +kernel), List.mem_of_getElem? (i := 706) (by decide +kernel), List.mem_of_getElem? (i := 707) (by decide +kernel)⟩
theorem lw_p14 : lw_okq (⟨"DamOfTurf", "isGap", "(III)Z"⟩, 11) := ⟨⟨by decide +kernel, by decide +kernel⟩, List.mem_of_getElem? (i := 17) (by decide +kernel), List.mem_of_getElem? (i := 726) (by decide +kernel), List.mem_of_getElem? (i := 727) (by decide +kernel)⟩
theorem lw_p15 : lw_okq (⟨"DamOfTurf$Crew", "wayCount", "()I"⟩, 6) := ⟨⟨by decide +kernel, by decide +kernel⟩, List.mem_of_getElem? (i := 82) (by decide +kernel), List.mem_of_getElem? (i := 752) (by decide +kernel), List.mem_of_getElem? (i := 753) (by decide +kernel)⟩
def lw_privs_1 : List (MethodName × Nat) := [(⟨"DamOfTurf$Plan", "clear", "()V"⟩, 9), (⟨"DamOfTurf$Text", "figuresAt", "(I)I"⟩, 4), (⟨"DamOfTurf$Text", "figureAt", "(I)I"⟩, 4), (⟨"DamOfTurf$Plan", "takeItem", "(ILDamOfTurf$Text;)Z"⟩, 9), (⟨"DamOfTurf$Plan", "addCell", "(II)Z"⟩, 9), (⟨"DamOfTurf$Plan", "setBanks", "(II)Z"⟩, 9), (⟨"DamOfTurf$Plan", "setLake", "(II)Z"⟩, 9), (⟨"DamOfTurf$Brook", "flowIn", "(I)I"⟩, 8), (⟨"DamOfTurf$Brook", "rainIn", "(I)I"⟩, 8), (⟨"DamOfTurf$Dam", "survey", "()V"⟩, 16), (⟨"DamOfTurf", "isCell", "(I)Z"⟩, 11), (⟨"DamOfTurf$Dam", "wears", "(I)Z"⟩, 16), (⟨"DamOfTurf", "findBestShares", "(III)I"⟩, 11), (⟨"DamOfTurf", "waterWithShares", "(II)I"⟩, 11), (⟨"DamOfTurf", "isGap", "(III)Z"⟩, 11), (⟨"DamOfTurf$Crew", "wayCount", "()I"⟩, 6)]
theorem lw_r1 : ∀ q ∈ lw_privs_1, lw_okq q := List.forall_mem_cons.mpr ⟨lw_p0, List.forall_mem_cons.mpr ⟨lw_p1, List.forall_mem_cons.mpr ⟨lw_p2, List.forall_mem_cons.mpr ⟨lw_p3, List.forall_mem_cons.mpr ⟨lw_p4, List.forall_mem_cons.mpr ⟨lw_p5, List.forall_mem_cons.mpr ⟨lw_p6, List.forall_mem_cons.mpr ⟨lw_p7, List.forall_mem_cons.mpr ⟨lw_p8, List.forall_mem_cons.mpr ⟨lw_p9, List.forall_mem_cons.mpr ⟨lw_p10, List.forall_mem_cons.mpr ⟨lw_p11, List.forall_mem_cons.mpr ⟨lw_p12, List.forall_mem_cons.mpr ⟨lw_p13, List.forall_mem_cons.mpr ⟨lw_p14, List.forall_mem_cons.mpr ⟨lw_p15, fun _ h => absurd h List.not_mem_nil⟩⟩⟩⟩⟩⟩⟩⟩⟩⟩⟩⟩⟩⟩⟩⟩
theorem lw_p16 : lw_okq (⟨"DamOfTurf$Crew", "minutesFor", "(II)I"⟩, 6) := ⟨⟨by decide +kernel, by decide +kernel⟩, List.mem_of_getElem? (i := 82) (by decide +kernel), List.mem_of_getElem? (i := 764) (by decide +kernel), List.mem_of_getElem? (i := 765) (by decide +kernel)⟩
theorem lw_p17 : lw_okq (⟨"DamOfTurf", "letOut", "(IIZ)I"⟩, 11) := ⟨⟨by decide +kernel, by decide +kernel⟩, List.mem_of_getElem? (i := 17) (by decide +kernel), List.mem_of_getElem? (i := 775) (by decide +kernel), List.mem_of_getElem? (i := 776) (by decide +kernel)⟩
theorem lw_p18 : lw_okq (⟨"DamOfTurf", "holdsIn", "(III)Z"⟩, 11) := ⟨⟨by decide +kernel, by decide +kernel⟩, List.mem_of_getElem? (i := 17) (by decide +kernel), List.mem_of_getElem? (i := 833) (by decide +kernel), List.mem_of_getElem? (i := 834) (by decide +kernel)⟩
theorem lw_p19 : lw_okq (⟨"DamOfTurfModel", "noDam", "(I)V"⟩, 48) := ⟨⟨by decide +kernel, by decide +kernel⟩, List.mem_of_getElem? (i := 875) (by decide +kernel), List.mem_of_getElem? (i := 881) (by decide +kernel), List.mem_of_getElem? (i := 882) (by decide +kernel)⟩
theorem lw_p20 : lw_okq (⟨"DamOfTurfModel", "begin", "()V"⟩, 48) := ⟨⟨by decide +kernel, by decide +kernel⟩, List.mem_of_getElem? (i := 875) (by decide +kernel), List.mem_of_getElem? (i := 885) (by decide +kernel), List.mem_of_getElem? (i := 886) (by decide +kernel)⟩
theorem lw_p21 : lw_okq (⟨"DamOfTurfModel", "beginBut", "(II)V"⟩, 48) := ⟨⟨by decide +kernel, by decide +kernel⟩, List.mem_of_getElem? (i := 875) (by decide +kernel), List.mem_of_getElem? (i := 889) (by decide +kernel), List.mem_of_getElem? (i := 890) (by decide +kernel)⟩
theorem lw_p22 : lw_okq (⟨"DamOfTurfModel", "canDo", "(II)Z"⟩, 48) := ⟨⟨by decide +kernel, by decide +kernel⟩, List.mem_of_getElem? (i := 875) (by decide +kernel), List.mem_of_getElem? (i := 893) (by decide +kernel), List.mem_of_getElem? (i := 894) (by decide +kernel)⟩
theorem lw_p23 : lw_okq (⟨"DamOfTurfModel", "doAct", "(II)V"⟩, 48) := ⟨⟨by decide +kernel, by decide +kernel⟩, List.mem_of_getElem? (i := 875) (by decide +kernel), List.mem_of_getElem? (i := 897) (by decide +kernel), List.mem_of_getElem? (i := 898) (by decide +kernel)⟩
theorem lw_p24 : lw_okq (⟨"DamOfTurfModel", "go", "(II)V"⟩, 48) := ⟨⟨by decide +kernel, by decide +kernel⟩, List.mem_of_getElem? (i := 875) (by decide +kernel), List.mem_of_getElem? (i := 901) (by decide +kernel), List.mem_of_getElem? (i := 902) (by decide +kernel)⟩
theorem lw_p25 : lw_okq (⟨"DamOfTurfModel", "comesIn", "(I)I"⟩, 48) := ⟨⟨by decide +kernel, by decide +kernel⟩, List.mem_of_getElem? (i := 875) (by decide +kernel), List.mem_of_getElem? (i := 905) (by decide +kernel), List.mem_of_getElem? (i := 906) (by decide +kernel)⟩
theorem lw_p26 : lw_okq (⟨"DamOfTurfModel", "levelOf", "(I)I"⟩, 48) := ⟨⟨by decide +kernel, by decide +kernel⟩, List.mem_of_getElem? (i := 875) (by decide +kernel), List.mem_of_getElem? (i := 912) (by decide +kernel), List.mem_of_getElem? (i := 913) (by decide +kernel)⟩
theorem lw_p27 : lw_okq (⟨"DamOfTurfModel", "takes", "(I)I"⟩, 48) := ⟨⟨by decide +kernel, by decide +kernel⟩, List.mem_of_getElem? (i := 875) (by decide +kernel), List.mem_of_getElem? (i := 916) (by decide +kernel), List.mem_of_getElem? (i := 917) (by decide +kernel)⟩
theorem lw_p28 : lw_okq (⟨"DamOfTurfModel", "edgeOf", "(I)I"⟩, 48) := ⟨⟨by decide +kernel, by decide +kernel⟩, List.mem_of_getElem? (i := 875) (by decide +kernel), List.mem_of_getElem? (i := 920) (by decide +kernel), List.mem_of_getElem? (i := 921) (by decide +kernel)⟩
theorem lw_p29 : lw_okq (⟨"DamOfTurfModel", "placeOf", "(I)I"⟩, 48) := ⟨⟨by decide +kernel, by decide +kernel⟩, List.mem_of_getElem? (i := 875) (by decide +kernel), List.mem_of_getElem? (i := 924) (by decide +kernel), List.mem_of_getElem? (i := 925) (by decide +kernel)⟩
theorem lw_p30 : lw_okq (⟨"DamOfTurfModel", "wear", "(II)V"⟩, 48) := ⟨⟨by decide +kernel, by decide +kernel⟩, List.mem_of_getElem? (i := 875) (by decide +kernel), List.mem_of_getElem? (i := 928) (by decide +kernel), List.mem_of_getElem? (i := 929) (by decide +kernel)⟩
theorem lw_p31 : lw_okq (⟨"DamOfTurfModel", "readAll", "()I"⟩, 48) := ⟨⟨by decide +kernel, by decide +kernel⟩, List.mem_of_getElem? (i := 875) (by decide +kernel), List.mem_of_getElem? (i := 1091) (by decide +kernel), List.mem_of_getElem? (i := 1092) (by decide +kernel)⟩
def lw_privs_2 : List (MethodName × Nat) := [(⟨"DamOfTurf$Crew", "minutesFor", "(II)I"⟩, 6), (⟨"DamOfTurf", "letOut", "(IIZ)I"⟩, 11), (⟨"DamOfTurf", "holdsIn", "(III)Z"⟩, 11), (⟨"DamOfTurfModel", "noDam", "(I)V"⟩, 48), (⟨"DamOfTurfModel", "begin", "()V"⟩, 48), (⟨"DamOfTurfModel", "beginBut", "(II)V"⟩, 48), (⟨"DamOfTurfModel", "canDo", "(II)Z"⟩, 48), (⟨"DamOfTurfModel", "doAct", "(II)V"⟩, 48), (⟨"DamOfTurfModel", "go", "(II)V"⟩, 48), (⟨"DamOfTurfModel", "comesIn", "(I)I"⟩, 48), (⟨"DamOfTurfModel", "levelOf", "(I)I"⟩, 48), (⟨"DamOfTurfModel", "takes", "(I)I"⟩, 48), (⟨"DamOfTurfModel", "edgeOf", "(I)I"⟩, 48), (⟨"DamOfTurfModel", "placeOf", "(I)I"⟩, 48), (⟨"DamOfTurfModel", "wear", "(II)V"⟩, 48), (⟨"DamOfTurfModel", "readAll", "()I"⟩, 48)]
theorem lw_r2 : ∀ q ∈ lw_privs_2, lw_okq q := List.forall_mem_cons.mpr ⟨lw_p16, List.forall_mem_cons.mpr ⟨lw_p17, List.forall_mem_cons.mpr ⟨lw_p18, List.forall_mem_cons.mpr ⟨lw_p19, List.forall_mem_cons.mpr ⟨lw_p20, List.forall_mem_cons.mpr ⟨lw_p21, List.forall_mem_cons.mpr ⟨lw_p22, List.forall_mem_cons.mpr ⟨lw_p23, List.forall_mem_cons.mpr ⟨lw_p24, List.forall_mem_cons.mpr ⟨lw_p25, List.forall_mem_cons.mpr ⟨lw_p26, List.forall_mem_cons.mpr ⟨lw_p27, List.forall_mem_cons.mpr ⟨lw_p28, List.forall_mem_cons.mpr ⟨lw_p29, List.forall_mem_cons.mpr ⟨lw_p30, List.forall_mem_cons.mpr ⟨lw_p31, fun _ h => absurd h List.not_mem_nil⟩⟩⟩⟩⟩⟩⟩⟩⟩⟩⟩⟩⟩⟩⟩⟩
theorem lw_p32 : lw_okq (⟨"DamOfTurfModel", "item", "()Z"⟩, 48) := ⟨⟨by decide +kernel, by decide +kernel⟩, List.mem_of_getElem? (i := 875) (by decide +kernel), List.mem_of_getElem? (i := 1095) (by decide +kernel), List.mem_of_getElem? (i := 1096) (by decide +kernel)⟩
theorem lw_p33 : lw_okq (⟨"DamOfTurfModel", "letterAt", "(I)I"⟩, 48) := ⟨⟨by decide +kernel, by decide +kernel⟩, List.mem_of_getElem? (i := 875) (by decide +kernel), List.mem_of_getElem? (i := 1099) (by decide +kernel), List.mem_of_getElem? (i := 1100) (by decide +kernel)⟩
theorem lw_p34 : lw_okq (⟨"DamOfTurfModel", "cellItem", "()Z"⟩, 48) := ⟨⟨by decide +kernel, by decide +kernel⟩, List.mem_of_getElem? (i := 875) (by decide +kernel), List.mem_of_getElem? (i := 1103) (by decide +kernel), List.mem_of_getElem? (i := 1104) (by decide +kernel)⟩
theorem lw_p35 : lw_okq (⟨"DamOfTurfModel", "figures", "(I)Z"⟩, 48) := ⟨⟨by decide +kernel, by decide +kernel⟩, List.mem_of_getElem? (i := 875) (by decide +kernel), List.mem_of_getElem? (i := 1107) (by decide +kernel), List.mem_of_getElem? (i := 1108) (by decide +kernel)⟩
theorem lw_p36 : lw_okq (⟨"DamOfTurfModel", "flowItem", "()Z"⟩, 48) := ⟨⟨by decide +kernel, by decide +kernel⟩, List.mem_of_getElem? (i := 875) (by decide +kernel), List.mem_of_getElem? (i := 1115) (by decide +kernel), List.mem_of_getElem? (i := 1116) (by decide +kernel)⟩
theorem lw_p37 : lw_okq (⟨"DamOfTurfModel", "rainItem", "()Z"⟩, 48) := ⟨⟨by decide +kernel, by decide +kernel⟩, List.mem_of_getElem? (i := 875) (by decide +kernel), List.mem_of_getElem? (i := 1119) (by decide +kernel), List.mem_of_getElem? (i := 1120) (by decide +kernel)⟩
theorem lw_p38 : lw_okq (⟨"DamOfTurfModel", "childItem", "()Z"⟩, 48) := ⟨⟨by decide +kernel, by decide +kernel⟩, List.mem_of_getElem? (i := 875) (by decide +kernel), List.mem_of_getElem? (i := 1123) (by decide +kernel), List.mem_of_getElem? (i := 1124) (by decide +kernel)⟩
theorem lw_p39 : lw_okq (⟨"DamOfTurfModel", "jobItem", "()Z"⟩, 48) := ⟨⟨by decide +kernel, by decide +kernel⟩, List.mem_of_getElem? (i := 875) (by decide +kernel), List.mem_of_getElem? (i := 1127) (by decide +kernel), List.mem_of_getElem? (i := 1128) (by decide +kernel)⟩
theorem lw_p40 : lw_okq (⟨"DamOfTurfModel", "isCell", "(I)Z"⟩, 48) := ⟨⟨by decide +kernel, by decide +kernel⟩, List.mem_of_getElem? (i := 875) (by decide +kernel), List.mem_of_getElem? (i := 1140) (by decide +kernel), List.mem_of_getElem? (i := 1141) (by decide +kernel)⟩
theorem lw_p41 : lw_okq (⟨"DamOfTurfModel", "note", "(IIII)V"⟩, 48) := ⟨⟨by decide +kernel, by decide +kernel⟩, List.mem_of_getElem? (i := 875) (by decide +kernel), List.mem_of_getElem? (i := 1163) (by decide +kernel), List.mem_of_getElem? (i := 1164) (by decide +kernel)⟩
theorem lw_p42 : lw_okq (⟨"DamOfTurfModel", "goOn", "(I)V"⟩, 48) := ⟨⟨by decide +kernel, by decide +kernel⟩, List.mem_of_getElem? (i := 875) (by decide +kernel), List.mem_of_getElem? (i := 1188) (by decide +kernel), List.mem_of_getElem? (i := 1189) (by decide +kernel)⟩
theorem lw_p43 : lw_okq (⟨"DamOfTurfModel", "tryIt", "()V"⟩, 48) := ⟨⟨by decide +kernel, by decide +kernel⟩, List.mem_of_getElem? (i := 875) (by decide +kernel), List.mem_of_getElem? (i := 1192) (by decide +kernel), List.mem_of_getElem? (i := 1193) (by decide +kernel)⟩
theorem lw_p44 : lw_okq (⟨"DamOfTurfModel", "goneFrom", "()I"⟩, 48) := ⟨⟨by decide +kernel, by decide +kernel⟩, List.mem_of_getElem? (i := 875) (by decide +kernel), List.mem_of_getElem? (i := 1208) (by decide +kernel), List.mem_of_getElem? (i := 1209) (by decide +kernel)⟩
theorem lw_p45 : lw_okq (⟨"DamOfTurfModel", "layRow", "(I)Z"⟩, 48) := ⟨⟨by decide +kernel, by decide +kernel⟩, List.mem_of_getElem? (i := 875) (by decide +kernel), List.mem_of_getElem? (i := 1217) (by decide +kernel), List.mem_of_getElem? (i := 1218) (by decide +kernel)⟩
theorem lw_p46 : lw_okq (⟨"DamOfTurfModel", "nextRow", "()Z"⟩, 48) := ⟨⟨by decide +kernel, by decide +kernel⟩, List.mem_of_getElem? (i := 875) (by decide +kernel), List.mem_of_getElem? (i := 1221) (by decide +kernel), List.mem_of_getElem? (i := 1222) (by decide +kernel)⟩
theorem lw_p47 : lw_okq (⟨"DamOfTurfModel", "isGap", "(III)Z"⟩, 48) := ⟨⟨by decide +kernel, by decide +kernel⟩, List.mem_of_getElem? (i := 875) (by decide +kernel), List.mem_of_getElem? (i := 1229) (by decide +kernel), List.mem_of_getElem? (i := 1230) (by decide +kernel)⟩
def lw_privs_3 : List (MethodName × Nat) := [(⟨"DamOfTurfModel", "item", "()Z"⟩, 48), (⟨"DamOfTurfModel", "letterAt", "(I)I"⟩, 48), (⟨"DamOfTurfModel", "cellItem", "()Z"⟩, 48), (⟨"DamOfTurfModel", "figures", "(I)Z"⟩, 48), (⟨"DamOfTurfModel", "flowItem", "()Z"⟩, 48), (⟨"DamOfTurfModel", "rainItem", "()Z"⟩, 48), (⟨"DamOfTurfModel", "childItem", "()Z"⟩, 48), (⟨"DamOfTurfModel", "jobItem", "()Z"⟩, 48), (⟨"DamOfTurfModel", "isCell", "(I)Z"⟩, 48), (⟨"DamOfTurfModel", "note", "(IIII)V"⟩, 48), (⟨"DamOfTurfModel", "goOn", "(I)V"⟩, 48), (⟨"DamOfTurfModel", "tryIt", "()V"⟩, 48), (⟨"DamOfTurfModel", "goneFrom", "()I"⟩, 48), (⟨"DamOfTurfModel", "layRow", "(I)Z"⟩, 48), (⟨"DamOfTurfModel", "nextRow", "()Z"⟩, 48), (⟨"DamOfTurfModel", "isGap", "(III)Z"⟩, 48)]
theorem lw_r3 : ∀ q ∈ lw_privs_3, lw_okq q := List.forall_mem_cons.mpr ⟨lw_p32, List.forall_mem_cons.mpr ⟨lw_p33, List.forall_mem_cons.mpr ⟨lw_p34, List.forall_mem_cons.mpr ⟨lw_p35, List.forall_mem_cons.mpr ⟨lw_p36, List.forall_mem_cons.mpr ⟨lw_p37, List.forall_mem_cons.mpr ⟨lw_p38, List.forall_mem_cons.mpr ⟨lw_p39, List.forall_mem_cons.mpr ⟨lw_p40, List.forall_mem_cons.mpr ⟨lw_p41, List.forall_mem_cons.mpr ⟨lw_p42, List.forall_mem_cons.mpr ⟨lw_p43, List.forall_mem_cons.mpr ⟨lw_p44, List.forall_mem_cons.mpr ⟨lw_p45, List.forall_mem_cons.mpr ⟨lw_p46, List.forall_mem_cons.mpr ⟨lw_p47, fun _ h => absurd h List.not_mem_nil⟩⟩⟩⟩⟩⟩⟩⟩⟩⟩⟩⟩⟩⟩⟩⟩
theorem lw_p48 : lw_okq (⟨"DamOfTurfModel", "timeOf", "(I)I"⟩, 48) := ⟨⟨by decide +kernel, by decide +kernel⟩, List.mem_of_getElem? (i := 875) (by decide +kernel), List.mem_of_getElem? (i := 1238) (by decide +kernel), List.mem_of_getElem? (i := 1239) (by decide +kernel)⟩
theorem lw_p49 : lw_okq (⟨"DamOfTurfModel", "isSlow", "(III)Z"⟩, 48) := ⟨⟨by decide +kernel, by decide +kernel⟩, List.mem_of_getElem? (i := 875) (by decide +kernel), List.mem_of_getElem? (i := 1247) (by decide +kernel), List.mem_of_getElem? (i := 1248) (by decide +kernel)⟩
theorem lw_p50 : lw_okq (⟨"DamOfTurfModel", "breaches", "(I)I"⟩, 48) := ⟨⟨by decide +kernel, by decide +kernel⟩, List.mem_of_getElem? (i := 875) (by decide +kernel), List.mem_of_getElem? (i := 1264) (by decide +kernel), List.mem_of_getElem? (i := 1265) (by decide +kernel)⟩
theorem lw_p51 : lw_okq (⟨"DamOfTurfModel", "holds", "(III)Z"⟩, 48) := ⟨⟨by decide +kernel, by decide +kernel⟩, List.mem_of_getElem? (i := 875) (by decide +kernel), List.mem_of_getElem? (i := 1286) (by decide +kernel), List.mem_of_getElem? (i := 1287) (by decide +kernel)⟩
theorem lw_p52 : lw_okq (⟨"DamOfTurfModel", "copy", "(II)V"⟩, 48) := ⟨⟨by decide +kernel, by decide +kernel⟩, List.mem_of_getElem? (i := 875) (by decide +kernel), List.mem_of_getElem? (i := 1303) (by decide +kernel), List.mem_of_getElem? (i := 1304) (by decide +kernel)⟩
def lw_privs_4 : List (MethodName × Nat) := [(⟨"DamOfTurfModel", "timeOf", "(I)I"⟩, 48), (⟨"DamOfTurfModel", "isSlow", "(III)Z"⟩, 48), (⟨"DamOfTurfModel", "breaches", "(I)I"⟩, 48), (⟨"DamOfTurfModel", "holds", "(III)Z"⟩, 48), (⟨"DamOfTurfModel", "copy", "(II)V"⟩, 48)]
theorem lw_r4 : ∀ q ∈ lw_privs_4, lw_okq q := List.forall_mem_cons.mpr ⟨lw_p48, List.forall_mem_cons.mpr ⟨lw_p49, List.forall_mem_cons.mpr ⟨lw_p50, List.forall_mem_cons.mpr ⟨lw_p51, List.forall_mem_cons.mpr ⟨lw_p52, fun _ h => absurd h List.not_mem_nil⟩⟩⟩⟩⟩
def lw_privs : List (MethodName × Nat) := lw_privs_1 ++ (lw_privs_2 ++ (lw_privs_3 ++ (lw_privs_4)))
def lw_tbl : List Cond := k2_sels lw_privs ++ tables_1
theorem lw_privs_ok : ∀ q ∈ lw_privs, lw_okq q := by
  show ∀ q ∈ lw_privs_1 ++ (lw_privs_2 ++ (lw_privs_3 ++ (lw_privs_4))), lw_okq q
  exact List.forall_mem_append.mpr ⟨lw_r1, List.forall_mem_append.mpr ⟨lw_r2, List.forall_mem_append.mpr ⟨lw_r3, lw_r4⟩⟩⟩
end
section
/-! ===== BEGIN words of one list among another's, by their places ===== -/
theorem goodIn_r {big : List Cond} (ws : List Cond) (ps : List Nat) (hp : ws = ps.filterMap (fun i => big[i]?)) (h : ws.all goodWord = true) : GoodIn big ws := by
  intro w hw
  have h1 := List.all_eq_true.mp h w hw
  rw [hp] at hw
  obtain ⟨i, -, hi⟩ := List.mem_filterMap.mp hw
  have hm : w ∈ big := by first | exact List.mem_of_getElem? hi | exact List.getElem?_mem hi
  exact ⟨hm, good_of_word h1⟩
theorem goodIn_app {big a b : List Cond} (ha : GoodIn big a) (hb : GoodIn big b) : GoodIn big (a ++ b) := fun w h => (List.mem_append.mp h).elim (ha w) (hb w)
theorem goodIn_ca {big a b : List Cond} {c : Cond} (ha : GoodIn big (c :: a)) (hb : GoodIn big b) : GoodIn big (c :: (a ++ b)) := fun w h => (List.mem_cons.mp h).elim (fun e => ha w (List.mem_cons.mpr (Or.inl e))) (fun h => (List.mem_append.mp h).elim (fun h => ha w (List.mem_cons.mpr (Or.inr h))) (hb w))
theorem goodIn_sub {big ws : List Cond} (hm : ∀ w ∈ ws, w ∈ big) (h : ws.all goodWord = true) : GoodIn big ws := fun w hw => ⟨hm w hw, good_of_word (List.all_eq_true.mp h w hw)⟩
/-! ===== END ===== -/

/-! ===== BEGIN printed: names, fields, word lists, decode rows ===== -/
def RX0 : String := "DamOfTurf$Acts"
def TX0 : u_T := fun k => match k with
  | 0 => ("DamOfTurf$Acts", "kinds", "[I", true)
  | 1 => ("DamOfTurf$Acts", "places", "[I", true)
  | 2 => ("DamOfTurf$Acts", "stuffs", "[I", true)
  | 3 => ("DamOfTurf$Acts", "amounts", "[I", true)
  | _ => ("DamOfTurf$Acts", "length", "I", false)
def tyX0 : Nat → FieldType := fun k => match k with
  | 0 => .array .int
  | 1 => .array .int
  | 2 => .array .int
  | 3 => .array .int
  | _ => .int
abbrev wsX00 : List Cond := u_ws RX0 TX0 5
theorem nmX0 : ∀ a, a < 5 → ∀ b, b < 5 → a ≠ b → (TX0 a).2.1 ≠ (TX0 b).2.1 := by decide +kernel
theorem tyX0_ok : ∀ k, k < 5 → parseFieldDescriptor (TX0 k).2.2.1 = some (tyX0 k) := by decide +kernel
abbrev cX0_init : ByteArray := prog_2_method_1_code
def yX0_init : MethodName := ⟨RX0, "<init>", "()V"⟩
abbrev cX0_size : ByteArray := prog_2_method_2_code
def yX0_size : MethodName := ⟨RX0, "size", "()I"⟩
abbrev cX0_clear : ByteArray := prog_2_method_3_code
def yX0_clear : MethodName := ⟨RX0, "clear", "()V"⟩
abbrev cX0_add : ByteArray := prog_2_method_4_code
def yX0_add : MethodName := ⟨RX0, "add", "(IIII)Z"⟩
abbrev cX0_dropLast : ByteArray := prog_2_method_5_code
def yX0_dropLast : MethodName := ⟨RX0, "dropLast", "()V"⟩
abbrev cX0_copyFrom : ByteArray := prog_2_method_6_code
def yX0_copyFrom : MethodName := ⟨RX0, "copyFrom", "(LDamOfTurf$Acts;)V"⟩
abbrev cX0_doAllBut : ByteArray := prog_2_method_7_code
def yX0_doAllBut : MethodName := ⟨RX0, "doAllBut", "(ILDamOfTurf$Dam;)V"⟩
abbrev cX0_doOne : ByteArray := prog_2_method_8_code
def yX0_doOne : MethodName := ⟨RX0, "doOne", "(IIIILDamOfTurf$Dam;)V"⟩
def RX1 : String := "DamOfTurf$Brook"
def TX1 : u_T := fun k => match k with
  | 0 => ("DamOfTurf$Brook", "flowFrom", "[I", true)
  | 1 => ("DamOfTurf$Brook", "flowUnits", "[I", true)
  | 2 => ("DamOfTurf$Brook", "flowCount", "I", false)
  | 3 => ("DamOfTurf$Brook", "rainFrom", "[I", true)
  | 4 => ("DamOfTurf$Brook", "rainTo", "[I", true)
  | 5 => ("DamOfTurf$Brook", "rainUnits", "[I", true)
  | 6 => ("DamOfTurf$Brook", "rainCount", "I", false)
  | _ => ("DamOfTurf$Brook", "byMinute", "[I", true)
def tyX1 : Nat → FieldType := fun k => match k with
  | 0 => .array .int
  | 1 => .array .int
  | 2 => .int
  | 3 => .array .int
  | 4 => .array .int
  | 5 => .array .int
  | 6 => .int
  | _ => .array .int
abbrev wsX10 : List Cond := u_ws RX1 TX1 8
theorem nmX1 : ∀ a, a < 8 → ∀ b, b < 8 → a ≠ b → (TX1 a).2.1 ≠ (TX1 b).2.1 := by decide +kernel
theorem tyX1_ok : ∀ k, k < 8 → parseFieldDescriptor (TX1 k).2.2.1 = some (tyX1 k) := by decide +kernel
abbrev cX1_init : ByteArray := prog_3_method_1_code
def yX1_init : MethodName := ⟨RX1, "<init>", "()V"⟩
abbrev cX1_clear : ByteArray := prog_3_method_2_code
def yX1_clear : MethodName := ⟨RX1, "clear", "()V"⟩
abbrev cX1_addFlow : ByteArray := prog_3_method_3_code
def yX1_addFlow : MethodName := ⟨RX1, "addFlow", "(II)Z"⟩
abbrev cX1_addRain : ByteArray := prog_3_method_4_code
def yX1_addRain : MethodName := ⟨RX1, "addRain", "(III)Z"⟩
abbrev cX1_settle : ByteArray := prog_3_method_5_code
def yX1_settle : MethodName := ⟨RX1, "settle", "()V"⟩
abbrev cX1_flowIn : ByteArray := prog_3_method_6_code
def yX1_flowIn : MethodName := ⟨RX1, "flowIn", "(I)I"⟩
abbrev cX1_rainIn : ByteArray := prog_3_method_7_code
def yX1_rainIn : MethodName := ⟨RX1, "rainIn", "(I)I"⟩
abbrev cX1_comesIn : ByteArray := prog_3_method_8_code
def yX1_comesIn : MethodName := ⟨RX1, "comesIn", "(I)I"⟩
def RX2 : String := "DamOfTurf$Crew"
def TX2 : u_T := fun k => match k with
  | 0 => ("DamOfTurf$Crew", "lays", "[[I", true)
  | 1 => ("DamOfTurf$Crew", "children", "I", false)
  | 2 => ("DamOfTurf$Crew", "jobStuff", "[I", true)
  | 3 => ("DamOfTurf$Crew", "jobInches", "[I", true)
  | 4 => ("DamOfTurf$Crew", "jobs", "I", false)
  | _ => ("DamOfTurf$Crew", "busy", "[I", true)
def tyX2 : Nat → FieldType := fun k => match k with
  | 0 => .array (.array .int)
  | 1 => .int
  | 2 => .array .int
  | 3 => .array .int
  | 4 => .int
  | _ => .array .int
abbrev wsX20 : List Cond := u_ws RX2 TX2 6
theorem nmX2 : ∀ a, a < 6 → ∀ b, b < 6 → a ≠ b → (TX2 a).2.1 ≠ (TX2 b).2.1 := by decide +kernel
theorem tyX2_ok : ∀ k, k < 6 → parseFieldDescriptor (TX2 k).2.2.1 = some (tyX2 k) := by decide +kernel
abbrev cX2_init : ByteArray := prog_4_method_1_code
def yX2_init : MethodName := ⟨RX2, "<init>", "()V"⟩
abbrev cX2_clear : ByteArray := prog_4_method_2_code
def yX2_clear : MethodName := ⟨RX2, "clear", "()V"⟩
abbrev cX2_addChild : ByteArray := prog_4_method_3_code
def yX2_addChild : MethodName := ⟨RX2, "addChild", "(LDamOfTurf$Text;)Z"⟩
abbrev cX2_addJob : ByteArray := prog_4_method_4_code
def yX2_addJob : MethodName := ⟨RX2, "addJob", "(II)Z"⟩
abbrev cX2_childCount : ByteArray := prog_4_method_5_code
def yX2_childCount : MethodName := ⟨RX2, "childCount", "()I"⟩
abbrev cX2_jobCount : ByteArray := prog_4_method_6_code
def yX2_jobCount : MethodName := ⟨RX2, "jobCount", "()I"⟩
abbrev cX2_quickestWay : ByteArray := prog_4_method_7_code
def yX2_quickestWay : MethodName := ⟨RX2, "quickestWay", "()I"⟩
abbrev cX2_wayCount : ByteArray := prog_4_method_8_code
def yX2_wayCount : MethodName := ⟨RX2, "wayCount", "()I"⟩
abbrev cX2_whoDoes : ByteArray := prog_4_method_9_code
def yX2_whoDoes : MethodName := ⟨RX2, "whoDoes", "(II)I"⟩
abbrev cX2_minutesBy : ByteArray := prog_4_method_10_code
def yX2_minutesBy : MethodName := ⟨RX2, "minutesBy", "(I)I"⟩
abbrev cX2_minutesFor : ByteArray := prog_4_method_11_code
def yX2_minutesFor : MethodName := ⟨RX2, "minutesFor", "(II)I"⟩
def RX3 : String := "DamOfTurf$Dam"
def TX3 : u_T := fun k => match k with
  | 0 => ("DamOfTurf$Dam", "plan", "LDamOfTurf$Plan;", true)
  | 1 => ("DamOfTurf$Dam", "heights", "[I", true)
  | 2 => ("DamOfTurf$Dam", "stuffs", "[I", true)
  | 3 => ("DamOfTurf$Dam", "breaches", "[I", true)
  | 4 => ("DamOfTurf$Dam", "units", "I", false)
  | 5 => ("DamOfTurf$Dam", "minutes", "I", false)
  | 6 => ("DamOfTurf$Dam", "wentOver", "I", false)
  | 7 => ("DamOfTurf$Dam", "seeped", "I", false)
  | 8 => ("DamOfTurf$Dam", "edge", "I", false)
  | 9 => ("DamOfTurf$Dam", "place", "I", false)
  | 10 => ("DamOfTurf$Dam", "edgeTakes", "I", false)
  | 11 => ("DamOfTurf$Dam", "turfs", "I", false)
  | 12 => ("DamOfTurf$Dam", "stones", "I", false)
  | 13 => ("DamOfTurf$Dam", "overNow", "I", false)
  | 14 => ("DamOfTurf$Dam", "overAt", "I", false)
  | _ => ("DamOfTurf$Dam", "breachedNow", "I", false)
def tyX3 : Nat → FieldType := fun k => match k with
  | 0 => .object "DamOfTurf$Plan"
  | 1 => .array .int
  | 2 => .array .int
  | 3 => .array .int
  | 4 => .int
  | 5 => .int
  | 6 => .int
  | 7 => .int
  | 8 => .int
  | 9 => .int
  | 10 => .int
  | 11 => .int
  | 12 => .int
  | 13 => .int
  | 14 => .int
  | _ => .int
abbrev wsX30 : List Cond := u_ws RX3 TX3 16
theorem nmX3 : ∀ a, a < 16 → ∀ b, b < 16 → a ≠ b → (TX3 a).2.1 ≠ (TX3 b).2.1 := by decide +kernel
theorem tyX3_ok : ∀ k, k < 16 → parseFieldDescriptor (TX3 k).2.2.1 = some (tyX3 k) := by decide +kernel
abbrev cX3_init : ByteArray := prog_5_method_1_code
def yX3_init : MethodName := ⟨RX3, "<init>", "(LDamOfTurf$Plan;)V"⟩
abbrev cX3_startAnew : ByteArray := prog_5_method_2_code
def yX3_startAnew : MethodName := ⟨RX3, "startAnew", "()V"⟩
abbrev cX3_copyFrom : ByteArray := prog_5_method_3_code
def yX3_copyFrom : MethodName := ⟨RX3, "copyFrom", "(LDamOfTurf$Dam;)V"⟩
abbrev cX3_survey : ByteArray := prog_5_method_4_code
def yX3_survey : MethodName := ⟨RX3, "survey", "()V"⟩
abbrev cX3_oneMinute : ByteArray := prog_5_method_5_code
def yX3_oneMinute : MethodName := ⟨RX3, "oneMinute", "(I)V"⟩
abbrev cX3_wears : ByteArray := prog_5_method_6_code
def yX3_wears : MethodName := ⟨RX3, "wears", "(I)Z"⟩
abbrev cX3_letPass : ByteArray := prog_5_method_7_code
def yX3_letPass : MethodName := ⟨RX3, "letPass", "(II)V"⟩
abbrev cX3_passTillOver : ByteArray := prog_5_method_8_code
def yX3_passTillOver : MethodName := ⟨RX3, "passTillOver", "()I"⟩
abbrev cX3_passTillBreach : ByteArray := prog_5_method_9_code
def yX3_passTillBreach : MethodName := ⟨RX3, "passTillBreach", "()I"⟩
abbrev cX3_canRaise : ByteArray := prog_5_method_10_code
def yX3_canRaise : MethodName := ⟨RX3, "canRaise", "(II)Z"⟩
abbrev cX3_canDig : ByteArray := prog_5_method_11_code
def yX3_canDig : MethodName := ⟨RX3, "canDig", "(II)Z"⟩
abbrev cX3_canPass : ByteArray := prog_5_method_12_code
def yX3_canPass : MethodName := ⟨RX3, "canPass", "(I)Z"⟩
abbrev cX3_layAt : ByteArray := prog_5_method_13_code
def yX3_layAt : MethodName := ⟨RX3, "layAt", "(III)V"⟩
abbrev cX3_digAt : ByteArray := prog_5_method_14_code
def yX3_digAt : MethodName := ⟨RX3, "digAt", "(II)V"⟩
abbrev cX3_remake : ByteArray := prog_5_method_15_code
def yX3_remake : MethodName := ⟨RX3, "remake", "(III)V"⟩
abbrev cX3_empty : ByteArray := prog_5_method_16_code
def yX3_empty : MethodName := ⟨RX3, "empty", "()V"⟩
abbrev cX3_heightAt : ByteArray := prog_5_method_17_code
def yX3_heightAt : MethodName := ⟨RX3, "heightAt", "(I)I"⟩
abbrev cX3_stuffAt : ByteArray := prog_5_method_18_code
def yX3_stuffAt : MethodName := ⟨RX3, "stuffAt", "(I)I"⟩
abbrev cX3_breachesAt : ByteArray := prog_5_method_19_code
def yX3_breachesAt : MethodName := ⟨RX3, "breachesAt", "(I)I"⟩
abbrev cX3_allBreaches : ByteArray := prog_5_method_20_code
def yX3_allBreaches : MethodName := ⟨RX3, "allBreaches", "()I"⟩
abbrev cX3_wasBreached : ByteArray := prog_5_method_21_code
def yX3_wasBreached : MethodName := ⟨RX3, "wasBreached", "()Z"⟩
abbrev cX3_level : ByteArray := prog_5_method_22_code
def yX3_level : MethodName := ⟨RX3, "level", "()I"⟩
abbrev cX3_units : ByteArray := prog_5_method_23_code
def yX3_units : MethodName := ⟨RX3, "units", "()I"⟩
abbrev cX3_minutesGone : ByteArray := prog_5_method_24_code
def yX3_minutesGone : MethodName := ⟨RX3, "minutesGone", "()I"⟩
abbrev cX3_allOver : ByteArray := prog_5_method_25_code
def yX3_allOver : MethodName := ⟨RX3, "allOver", "()I"⟩
abbrev cX3_allSeeped : ByteArray := prog_5_method_26_code
def yX3_allSeeped : MethodName := ⟨RX3, "allSeeped", "()I"⟩
abbrev cX3_edgeHeight : ByteArray := prog_5_method_27_code
def yX3_edgeHeight : MethodName := ⟨RX3, "edgeHeight", "()I"⟩
abbrev cX3_lowestPlace : ByteArray := prog_5_method_28_code
def yX3_lowestPlace : MethodName := ⟨RX3, "lowestPlace", "()I"⟩
abbrev cX3_overInMinute : ByteArray := prog_5_method_29_code
def yX3_overInMinute : MethodName := ⟨RX3, "overInMinute", "()I"⟩
abbrev cX3_placeOver : ByteArray := prog_5_method_30_code
def yX3_placeOver : MethodName := ⟨RX3, "placeOver", "()I"⟩
abbrev cX3_breachedCell : ByteArray := prog_5_method_31_code
def yX3_breachedCell : MethodName := ⟨RX3, "breachedCell", "()I"⟩
def RX4 : String := "DamOfTurf$Plan"
def TX4 : u_T := fun k => match k with
  | 0 => ("DamOfTurf$Plan", "heights", "[I", true)
  | 1 => ("DamOfTurf$Plan", "stuffs", "[I", true)
  | 2 => ("DamOfTurf$Plan", "cells", "I", false)
  | 3 => ("DamOfTurf$Plan", "leftBank", "I", false)
  | 4 => ("DamOfTurf$Plan", "rightBank", "I", false)
  | 5 => ("DamOfTurf$Plan", "inch", "I", false)
  | 6 => ("DamOfTurf$Plan", "inchMore", "I", false)
  | 7 => ("DamOfTurf$Plan", "brook", "LDamOfTurf$Brook;", true)
  | _ => ("DamOfTurf$Plan", "crew", "LDamOfTurf$Crew;", true)
def tyX4 : Nat → FieldType := fun k => match k with
  | 0 => .array .int
  | 1 => .array .int
  | 2 => .int
  | 3 => .int
  | 4 => .int
  | 5 => .int
  | 6 => .int
  | 7 => .object "DamOfTurf$Brook"
  | _ => .object "DamOfTurf$Crew"
abbrev wsX40 : List Cond := u_ws RX4 TX4 9
theorem nmX4 : ∀ a, a < 9 → ∀ b, b < 9 → a ≠ b → (TX4 a).2.1 ≠ (TX4 b).2.1 := by decide +kernel
theorem tyX4_ok : ∀ k, k < 9 → parseFieldDescriptor (TX4 k).2.2.1 = some (tyX4 k) := by decide +kernel
abbrev cX4_init : ByteArray := prog_6_method_1_code
def yX4_init : MethodName := ⟨RX4, "<init>", "()V"⟩
abbrev cX4_readFrom : ByteArray := prog_6_method_2_code
def yX4_readFrom : MethodName := ⟨RX4, "readFrom", "(LDamOfTurf$Text;)I"⟩
abbrev cX4_clear : ByteArray := prog_6_method_3_code
def yX4_clear : MethodName := ⟨RX4, "clear", "()V"⟩
abbrev cX4_takeItem : ByteArray := prog_6_method_4_code
def yX4_takeItem : MethodName := ⟨RX4, "takeItem", "(ILDamOfTurf$Text;)Z"⟩
abbrev cX4_addCell : ByteArray := prog_6_method_5_code
def yX4_addCell : MethodName := ⟨RX4, "addCell", "(II)Z"⟩
abbrev cX4_setBanks : ByteArray := prog_6_method_6_code
def yX4_setBanks : MethodName := ⟨RX4, "setBanks", "(II)Z"⟩
abbrev cX4_setLake : ByteArray := prog_6_method_7_code
def yX4_setLake : MethodName := ⟨RX4, "setLake", "(II)Z"⟩
abbrev cX4_cellCount : ByteArray := prog_6_method_8_code
def yX4_cellCount : MethodName := ⟨RX4, "cellCount", "()I"⟩
abbrev cX4_firstHeight : ByteArray := prog_6_method_9_code
def yX4_firstHeight : MethodName := ⟨RX4, "firstHeight", "(I)I"⟩
abbrev cX4_firstStuff : ByteArray := prog_6_method_10_code
def yX4_firstStuff : MethodName := ⟨RX4, "firstStuff", "(I)I"⟩
abbrev cX4_left : ByteArray := prog_6_method_11_code
def yX4_left : MethodName := ⟨RX4, "left", "()I"⟩
abbrev cX4_right : ByteArray := prog_6_method_12_code
def yX4_right : MethodName := ⟨RX4, "right", "()I"⟩
abbrev cX4_brook : ByteArray := prog_6_method_13_code
def yX4_brook : MethodName := ⟨RX4, "brook", "()LDamOfTurf$Brook;"⟩
abbrev cX4_crew : ByteArray := prog_6_method_14_code
def yX4_crew : MethodName := ⟨RX4, "crew", "()LDamOfTurf$Crew;"⟩
abbrev cX4_takes : ByteArray := prog_6_method_15_code
def yX4_takes : MethodName := ⟨RX4, "takes", "(I)I"⟩
abbrev cX4_levelOf : ByteArray := prog_6_method_16_code
def yX4_levelOf : MethodName := ⟨RX4, "levelOf", "(I)I"⟩
def RX5 : String := "DamOfTurf$Shares"
def TX5 : u_T := fun k => match k with
  | 0 => ("DamOfTurf$Shares", "inches", "[I", true)
  | _ => ("DamOfTurf$Shares", "cells", "I", false)
def tyX5 : Nat → FieldType := fun k => match k with
  | 0 => .array .int
  | _ => .int
abbrev wsX50 : List Cond := u_ws RX5 TX5 2
theorem nmX5 : ∀ a, a < 2 → ∀ b, b < 2 → a ≠ b → (TX5 a).2.1 ≠ (TX5 b).2.1 := by decide +kernel
theorem tyX5_ok : ∀ k, k < 2 → parseFieldDescriptor (TX5 k).2.2.1 = some (tyX5 k) := by decide +kernel
abbrev cX5_init : ByteArray := prog_7_method_1_code
def yX5_init : MethodName := ⟨RX5, "<init>", "()V"⟩
abbrev cX5_start : ByteArray := prog_7_method_2_code
def yX5_start : MethodName := ⟨RX5, "start", "(II)V"⟩
abbrev cX5_next : ByteArray := prog_7_method_3_code
def yX5_next : MethodName := ⟨RX5, "next", "()Z"⟩
abbrev cX5_inchesAt : ByteArray := prog_7_method_4_code
def yX5_inchesAt : MethodName := ⟨RX5, "inchesAt", "(I)I"⟩
abbrev cX5_copyFrom : ByteArray := prog_7_method_5_code
def yX5_copyFrom : MethodName := ⟨RX5, "copyFrom", "(LDamOfTurf$Shares;)V"⟩
def RX6 : String := "DamOfTurf$Sightings"
def TX6 : u_T := fun k => match k with
  | 0 => ("DamOfTurf$Sightings", "levels", "[I", true)
  | 1 => ("DamOfTurf$Sightings", "times", "[I", true)
  | _ => ("DamOfTurf$Sightings", "length", "I", false)
def tyX6 : Nat → FieldType := fun k => match k with
  | 0 => .array .int
  | 1 => .array .int
  | _ => .int
abbrev wsX60 : List Cond := u_ws RX6 TX6 3
theorem nmX6 : ∀ a, a < 3 → ∀ b, b < 3 → a ≠ b → (TX6 a).2.1 ≠ (TX6 b).2.1 := by decide +kernel
theorem tyX6_ok : ∀ k, k < 3 → parseFieldDescriptor (TX6 k).2.2.1 = some (tyX6 k) := by decide +kernel
abbrev cX6_init : ByteArray := prog_8_method_1_code
def yX6_init : MethodName := ⟨RX6, "<init>", "()V"⟩
abbrev cX6_size : ByteArray := prog_8_method_2_code
def yX6_size : MethodName := ⟨RX6, "size", "()I"⟩
abbrev cX6_clear : ByteArray := prog_8_method_3_code
def yX6_clear : MethodName := ⟨RX6, "clear", "()V"⟩
abbrev cX6_add : ByteArray := prog_8_method_4_code
def yX6_add : MethodName := ⟨RX6, "add", "(II)Z"⟩
abbrev cX6_agreeWith : ByteArray := prog_8_method_5_code
def yX6_agreeWith : MethodName := ⟨RX6, "agreeWith", "(ILDamOfTurf$Plan;)Z"⟩
def RX7 : String := "DamOfTurf$Text"
def TX7 : u_T := fun k => match k with
  | 0 => ("DamOfTurf$Text", "letters", "[I", true)
  | 1 => ("DamOfTurf$Text", "length", "I", false)
  | 2 => ("DamOfTurf$Text", "numbers", "[I", true)
  | _ => ("DamOfTurf$Text", "howMany", "I", false)
def tyX7 : Nat → FieldType := fun k => match k with
  | 0 => .array .int
  | 1 => .int
  | 2 => .array .int
  | _ => .int
abbrev wsX70 : List Cond := u_ws RX7 TX7 4
theorem nmX7 : ∀ a, a < 4 → ∀ b, b < 4 → a ≠ b → (TX7 a).2.1 ≠ (TX7 b).2.1 := by decide +kernel
theorem tyX7_ok : ∀ k, k < 4 → parseFieldDescriptor (TX7 k).2.2.1 = some (tyX7 k) := by decide +kernel
abbrev cX7_init : ByteArray := prog_9_method_1_code
def yX7_init : MethodName := ⟨RX7, "<init>", "()V"⟩
abbrev cX7_size : ByteArray := prog_9_method_2_code
def yX7_size : MethodName := ⟨RX7, "size", "()I"⟩
abbrev cX7_clear : ByteArray := prog_9_method_3_code
def yX7_clear : MethodName := ⟨RX7, "clear", "()V"⟩
abbrev cX7_add : ByteArray := prog_9_method_4_code
def yX7_add : MethodName := ⟨RX7, "add", "(I)Z"⟩
abbrev cX7_letterAt : ByteArray := prog_9_method_5_code
def yX7_letterAt : MethodName := ⟨RX7, "letterAt", "(I)I"⟩
abbrev cX7_numberCount : ByteArray := prog_9_method_6_code
def yX7_numberCount : MethodName := ⟨RX7, "numberCount", "()I"⟩
abbrev cX7_numberAt : ByteArray := prog_9_method_7_code
def yX7_numberAt : MethodName := ⟨RX7, "numberAt", "(I)I"⟩
abbrev cX7_readItem : ByteArray := prog_9_method_8_code
def yX7_readItem : MethodName := ⟨RX7, "readItem", "(I)I"⟩
abbrev cX7_figuresAt : ByteArray := prog_9_method_9_code
def yX7_figuresAt : MethodName := ⟨RX7, "figuresAt", "(I)I"⟩
abbrev cX7_figureAt : ByteArray := prog_9_method_10_code
def yX7_figureAt : MethodName := ⟨RX7, "figureAt", "(I)I"⟩
def RX8 : String := "DamOfTurf"
def TX8 : u_T := fun k => match k with
  | 0 => ("DamOfTurf", "text", "LDamOfTurf$Text;", true)
  | 1 => ("DamOfTurf", "plan", "LDamOfTurf$Plan;", true)
  | 2 => ("DamOfTurf", "draft", "LDamOfTurf$Plan;", true)
  | 3 => ("DamOfTurf", "now", "LDamOfTurf$Dam;", true)
  | 4 => ("DamOfTurf", "trial", "LDamOfTurf$Dam;", true)
  | 5 => ("DamOfTurf", "acts", "LDamOfTurf$Acts;", true)
  | 6 => ("DamOfTurf", "kept", "[LDamOfTurf$Acts;", true)
  | 7 => ("DamOfTurf", "keptCount", "I", false)
  | 8 => ("DamOfTurf", "sightings", "LDamOfTurf$Sightings;", true)
  | 9 => ("DamOfTurf", "shares", "LDamOfTurf$Shares;", true)
  | _ => ("DamOfTurf", "bestShares", "LDamOfTurf$Shares;", true)
def tyX8 : Nat → FieldType := fun k => match k with
  | 0 => .object "DamOfTurf$Text"
  | 1 => .object "DamOfTurf$Plan"
  | 2 => .object "DamOfTurf$Plan"
  | 3 => .object "DamOfTurf$Dam"
  | 4 => .object "DamOfTurf$Dam"
  | 5 => .object "DamOfTurf$Acts"
  | 6 => .array (.object "DamOfTurf$Acts")
  | 7 => .int
  | 8 => .object "DamOfTurf$Sightings"
  | 9 => .object "DamOfTurf$Shares"
  | _ => .object "DamOfTurf$Shares"
abbrev wsX80 : List Cond := u_ws RX8 TX8 11
theorem nmX8 : ∀ a, a < 11 → ∀ b, b < 11 → a ≠ b → (TX8 a).2.1 ≠ (TX8 b).2.1 := by decide +kernel
theorem tyX8_ok : ∀ k, k < 11 → parseFieldDescriptor (TX8 k).2.2.1 = some (tyX8 k) := by decide +kernel
abbrev cX8_init : ByteArray := prog_1_method_1_code
def yX8_init : MethodName := ⟨RX8, "<init>", "()V"⟩
abbrev cX8_write : ByteArray := prog_1_method_2_code
def yX8_write : MethodName := ⟨RX8, "write", "(I)I"⟩
abbrev cX8_wipe : ByteArray := prog_1_method_3_code
def yX8_wipe : MethodName := ⟨RX8, "wipe", "()I"⟩
abbrev cX8_fault : ByteArray := prog_1_method_4_code
def yX8_fault : MethodName := ⟨RX8, "fault", "()I"⟩
abbrev cX8_laid : ByteArray := prog_1_method_5_code
def yX8_laid : MethodName := ⟨RX8, "laid", "()I"⟩
abbrev cX8_cell : ByteArray := prog_1_method_6_code
def yX8_cell : MethodName := ⟨RX8, "cell", "(II)I"⟩
abbrev cX8_lake : ByteArray := prog_1_method_7_code
def yX8_lake : MethodName := ⟨RX8, "lake", "(I)I"⟩
abbrev cX8_edge : ByteArray := prog_1_method_8_code
def yX8_edge : MethodName := ⟨RX8, "edge", "(I)I"⟩
abbrev cX8_comes : ByteArray := prog_1_method_9_code
def yX8_comes : MethodName := ⟨RX8, "comes", "(I)I"⟩
abbrev cX8_put : ByteArray := prog_1_method_10_code
def yX8_put : MethodName := ⟨RX8, "put", "(III)I"⟩
abbrev cX8_dig : ByteArray := prog_1_method_11_code
def yX8_dig : MethodName := ⟨RX8, "dig", "(II)I"⟩
abbrev cX8_pass : ByteArray := prog_1_method_12_code
def yX8_pass : MethodName := ⟨RX8, "pass", "(I)I"⟩
abbrev cX8_undo : ByteArray := prog_1_method_13_code
def yX8_undo : MethodName := ⟨RX8, "undo", "()I"⟩
abbrev cX8_behind : ByteArray := prog_1_method_14_code
def yX8_behind : MethodName := ⟨RX8, "behind", "(II)I"⟩
abbrev cX8_worn : ByteArray := prog_1_method_15_code
def yX8_worn : MethodName := ⟨RX8, "worn", "(II)I"⟩
abbrev cX8_over : ByteArray := prog_1_method_16_code
def yX8_over : MethodName := ⟨RX8, "over", "(I)I"⟩
abbrev cX8_gone : ByteArray := prog_1_method_17_code
def yX8_gone : MethodName := ⟨RX8, "gone", "(I)I"⟩
abbrev cX8_best : ByteArray := prog_1_method_18_code
def yX8_best : MethodName := ⟨RX8, "best", "(IIII)I"⟩
abbrev cX8_findBestShares : ByteArray := prog_1_method_19_code
def yX8_findBestShares : MethodName := ⟨RX8, "findBestShares", "(III)I"⟩
abbrev cX8_waterWithShares : ByteArray := prog_1_method_20_code
def yX8_waterWithShares : MethodName := ⟨RX8, "waterWithShares", "(II)I"⟩
abbrev cX8_gap : ByteArray := prog_1_method_21_code
def yX8_gap : MethodName := ⟨RX8, "gap", "(II)I"⟩
abbrev cX8_isGap : ByteArray := prog_1_method_22_code
def yX8_isGap : MethodName := ⟨RX8, "isGap", "(III)Z"⟩
abbrev cX8_together : ByteArray := prog_1_method_23_code
def yX8_together : MethodName := ⟨RX8, "together", "(I)I"⟩
abbrev cX8_slow : ByteArray := prog_1_method_24_code
def yX8_slow : MethodName := ⟨RX8, "slow", "(III)I"⟩
abbrev cX8_letOut : ByteArray := prog_1_method_25_code
def yX8_letOut : MethodName := ⟨RX8, "letOut", "(IIZ)I"⟩
abbrev cX8_fill : ByteArray := prog_1_method_26_code
def yX8_fill : MethodName := ⟨RX8, "fill", "(I)I"⟩
abbrev cX8_trodden : ByteArray := prog_1_method_27_code
def yX8_trodden : MethodName := ⟨RX8, "trodden", "(II)I"⟩
abbrev cX8_blame : ByteArray := prog_1_method_28_code
def yX8_blame : MethodName := ⟨RX8, "blame", "()I"⟩
abbrev cX8_seen : ByteArray := prog_1_method_29_code
def yX8_seen : MethodName := ⟨RX8, "seen", "(II)I"⟩
abbrev cX8_forget : ByteArray := prog_1_method_30_code
def yX8_forget : MethodName := ⟨RX8, "forget", "()I"⟩
abbrev cX8_flows : ByteArray := prog_1_method_31_code
def yX8_flows : MethodName := ⟨RX8, "flows", "()I"⟩
abbrev cX8_odds : ByteArray := prog_1_method_32_code
def yX8_odds : MethodName := ⟨RX8, "odds", "(IIII)I"⟩
abbrev cX8_holdsIn : ByteArray := prog_1_method_33_code
def yX8_holdsIn : MethodName := ⟨RX8, "holdsIn", "(III)Z"⟩
abbrev cX8_chanceOf : ByteArray := prog_1_method_34_code
def yX8_chanceOf : MethodName := ⟨RX8, "chanceOf", "(III)I"⟩
abbrev cX8_greatestDivisor : ByteArray := prog_1_method_35_code
def yX8_greatestDivisor : MethodName := ⟨RX8, "greatestDivisor", "(II)I"⟩
abbrev cX8_night : ByteArray := prog_1_method_36_code
def yX8_night : MethodName := ⟨RX8, "night", "(II)I"⟩
abbrev cX8_drawOf : ByteArray := prog_1_method_37_code
def yX8_drawOf : MethodName := ⟨RX8, "drawOf", "(II)I"⟩
abbrev cX8_keep : ByteArray := prog_1_method_38_code
def yX8_keep : MethodName := ⟨RX8, "keep", "()I"⟩
abbrev cX8_back : ByteArray := prog_1_method_39_code
def yX8_back : MethodName := ⟨RX8, "back", "()I"⟩
abbrev cX8_count : ByteArray := prog_1_method_40_code
def yX8_count : MethodName := ⟨RX8, "count", "(I)I"⟩
abbrev cX8_isCell : ByteArray := prog_1_method_41_code
def yX8_isCell : MethodName := ⟨RX8, "isCell", "(I)Z"⟩
abbrev cX8_isStuff : ByteArray := prog_1_method_42_code
def yX8_isStuff : MethodName := ⟨RX8, "isStuff", "(I)Z"⟩
abbrev cX8_isWithin : ByteArray := prog_1_method_43_code
def yX8_isWithin : MethodName := ⟨RX8, "isWithin", "(III)Z"⟩
def RX9 : String := "DamOfTurfModel"
def TX9 : u_T := fun k => match k with
  | 0 => ("DamOfTurfModel", "length", "I", false)
  | 1 => ("DamOfTurfModel", "text", "[I", true)
  | 2 => ("DamOfTurfModel", "cells", "[I", true)
  | 3 => ("DamOfTurfModel", "tall", "[I", true)
  | 4 => ("DamOfTurfModel", "stuffs", "[I", true)
  | 5 => ("DamOfTurfModel", "banks", "[I", true)
  | 6 => ("DamOfTurfModel", "basin", "[I", true)
  | 7 => ("DamOfTurfModel", "flows", "[I", true)
  | 8 => ("DamOfTurfModel", "flowFrom", "[I", true)
  | 9 => ("DamOfTurfModel", "flowBy", "[I", true)
  | 10 => ("DamOfTurfModel", "rains", "[I", true)
  | 11 => ("DamOfTurfModel", "rainFrom", "[I", true)
  | 12 => ("DamOfTurfModel", "rainTo", "[I", true)
  | 13 => ("DamOfTurfModel", "rainBy", "[I", true)
  | 14 => ("DamOfTurfModel", "children", "[I", true)
  | 15 => ("DamOfTurfModel", "lays", "[I", true)
  | 16 => ("DamOfTurfModel", "jobs", "[I", true)
  | 17 => ("DamOfTurfModel", "jobCell", "[I", true)
  | 18 => ("DamOfTurfModel", "jobStuff", "[I", true)
  | 19 => ("DamOfTurfModel", "jobInches", "[I", true)
  | 20 => ("DamOfTurfModel", "acts", "[I", true)
  | 21 => ("DamOfTurfModel", "actKind", "[I", true)
  | 22 => ("DamOfTurfModel", "actCell", "[I", true)
  | 23 => ("DamOfTurfModel", "actStuff", "[I", true)
  | 24 => ("DamOfTurfModel", "actMany", "[I", true)
  | 25 => ("DamOfTurfModel", "keptMany", "I", false)
  | 26 => ("DamOfTurfModel", "seenMany", "I", false)
  | 27 => ("DamOfTurfModel", "seenLevel", "[I", true)
  | 28 => ("DamOfTurfModel", "seenBy", "[I", true)
  | 29 => ("DamOfTurfModel", "spot", "I", false)
  | 30 => ("DamOfTurfModel", "told", "[I", true)
  | 31 => ("DamOfTurfModel", "high", "[I", true)
  | 32 => ("DamOfTurfModel", "of", "[I", true)
  | 33 => ("DamOfTurfModel", "breached", "[I", true)
  | 34 => ("DamOfTurfModel", "water", "[I", true)
  | 35 => ("DamOfTurfModel", "minutes", "[I", true)
  | 36 => ("DamOfTurfModel", "overAll", "[I", true)
  | 37 => ("DamOfTurfModel", "seepAll", "[I", true)
  | 38 => ("DamOfTurfModel", "went", "I", false)
  | 39 => ("DamOfTurfModel", "wentAt", "I", false)
  | 40 => ("DamOfTurfModel", "broke", "I", false)
  | 41 => ("DamOfTurfModel", "brokeAt", "I", false)
  | 42 => ("DamOfTurfModel", "row", "[I", true)
  | 43 => ("DamOfTurfModel", "bestRow", "[I", true)
  | 44 => ("DamOfTurfModel", "busy", "[I", true)
  | 45 => ("DamOfTurfModel", "doer", "[I", true)
  | 46 => ("DamOfTurfModel", "bestDoer", "[I", true)
  | _ => ("DamOfTurfModel", "emptyIn", "I", false)
def tyX9 : Nat → FieldType := fun k => match k with
  | 0 => .int
  | 1 => .array .int
  | 2 => .array .int
  | 3 => .array .int
  | 4 => .array .int
  | 5 => .array .int
  | 6 => .array .int
  | 7 => .array .int
  | 8 => .array .int
  | 9 => .array .int
  | 10 => .array .int
  | 11 => .array .int
  | 12 => .array .int
  | 13 => .array .int
  | 14 => .array .int
  | 15 => .array .int
  | 16 => .array .int
  | 17 => .array .int
  | 18 => .array .int
  | 19 => .array .int
  | 20 => .array .int
  | 21 => .array .int
  | 22 => .array .int
  | 23 => .array .int
  | 24 => .array .int
  | 25 => .int
  | 26 => .int
  | 27 => .array .int
  | 28 => .array .int
  | 29 => .int
  | 30 => .array .int
  | 31 => .array .int
  | 32 => .array .int
  | 33 => .array .int
  | 34 => .array .int
  | 35 => .array .int
  | 36 => .array .int
  | 37 => .array .int
  | 38 => .int
  | 39 => .int
  | 40 => .int
  | 41 => .int
  | 42 => .array .int
  | 43 => .array .int
  | 44 => .array .int
  | 45 => .array .int
  | 46 => .array .int
  | _ => .int
abbrev wsX90 : List Cond := u_ws RX9 TX9 48
theorem nmX9 : ∀ a, a < 48 → ∀ b, b < 48 → a ≠ b → (TX9 a).2.1 ≠ (TX9 b).2.1 := by decide +kernel
theorem tyX9_ok : ∀ k, k < 48 → parseFieldDescriptor (TX9 k).2.2.1 = some (tyX9 k) := by decide +kernel
abbrev cX9_init : ByteArray := prog_11_method_1_code
def yX9_init : MethodName := ⟨RX9, "<init>", "()V"⟩
abbrev cX9_in : ByteArray := prog_11_method_2_code
def yX9_in : MethodName := ⟨RX9, "in", "(JJJ)Z"⟩
abbrev cX9_noDam : ByteArray := prog_11_method_3_code
def yX9_noDam : MethodName := ⟨RX9, "noDam", "(I)V"⟩
abbrev cX9_write : ByteArray := prog_11_method_4_code
def yX9_write : MethodName := ⟨RX9, "write", "(I)I"⟩
abbrev cX9_wipe : ByteArray := prog_11_method_5_code
def yX9_wipe : MethodName := ⟨RX9, "wipe", "()I"⟩
abbrev cX9_letterAt : ByteArray := prog_11_method_6_code
def yX9_letterAt : MethodName := ⟨RX9, "letterAt", "(I)I"⟩
abbrev cX9_figures : ByteArray := prog_11_method_7_code
def yX9_figures : MethodName := ⟨RX9, "figures", "(I)Z"⟩
abbrev cX9_cellItem : ByteArray := prog_11_method_8_code
def yX9_cellItem : MethodName := ⟨RX9, "cellItem", "()Z"⟩
abbrev cX9_flowItem : ByteArray := prog_11_method_9_code
def yX9_flowItem : MethodName := ⟨RX9, "flowItem", "()Z"⟩
abbrev cX9_rainItem : ByteArray := prog_11_method_10_code
def yX9_rainItem : MethodName := ⟨RX9, "rainItem", "()Z"⟩
abbrev cX9_childItem : ByteArray := prog_11_method_11_code
def yX9_childItem : MethodName := ⟨RX9, "childItem", "()Z"⟩
abbrev cX9_jobItem : ByteArray := prog_11_method_12_code
def yX9_jobItem : MethodName := ⟨RX9, "jobItem", "()Z"⟩
abbrev cX9_item : ByteArray := prog_11_method_13_code
def yX9_item : MethodName := ⟨RX9, "item", "()Z"⟩
abbrev cX9_readAll : ByteArray := prog_11_method_14_code
def yX9_readAll : MethodName := ⟨RX9, "readAll", "()I"⟩
abbrev cX9_fault : ByteArray := prog_11_method_15_code
def yX9_fault : MethodName := ⟨RX9, "fault", "()I"⟩
abbrev cX9_laid : ByteArray := prog_11_method_16_code
def yX9_laid : MethodName := ⟨RX9, "laid", "()I"⟩
abbrev cX9_isCell : ByteArray := prog_11_method_17_code
def yX9_isCell : MethodName := ⟨RX9, "isCell", "(I)Z"⟩
abbrev cX9_takes : ByteArray := prog_11_method_18_code
def yX9_takes : MethodName := ⟨RX9, "takes", "(I)I"⟩
abbrev cX9_levelOf : ByteArray := prog_11_method_19_code
def yX9_levelOf : MethodName := ⟨RX9, "levelOf", "(I)I"⟩
abbrev cX9_comesIn : ByteArray := prog_11_method_20_code
def yX9_comesIn : MethodName := ⟨RX9, "comesIn", "(I)I"⟩
abbrev cX9_edgeOf : ByteArray := prog_11_method_21_code
def yX9_edgeOf : MethodName := ⟨RX9, "edgeOf", "(I)I"⟩
abbrev cX9_placeOf : ByteArray := prog_11_method_22_code
def yX9_placeOf : MethodName := ⟨RX9, "placeOf", "(I)I"⟩
abbrev cX9_wear : ByteArray := prog_11_method_23_code
def yX9_wear : MethodName := ⟨RX9, "wear", "(II)V"⟩
abbrev cX9_go : ByteArray := prog_11_method_24_code
def yX9_go : MethodName := ⟨RX9, "go", "(II)V"⟩
abbrev cX9_canDo : ByteArray := prog_11_method_25_code
def yX9_canDo : MethodName := ⟨RX9, "canDo", "(II)Z"⟩
abbrev cX9_doAct : ByteArray := prog_11_method_26_code
def yX9_doAct : MethodName := ⟨RX9, "doAct", "(II)V"⟩
abbrev cX9_beginBut : ByteArray := prog_11_method_27_code
def yX9_beginBut : MethodName := ⟨RX9, "beginBut", "(II)V"⟩
abbrev cX9_begin : ByteArray := prog_11_method_28_code
def yX9_begin : MethodName := ⟨RX9, "begin", "()V"⟩
abbrev cX9_tryIt : ByteArray := prog_11_method_29_code
def yX9_tryIt : MethodName := ⟨RX9, "tryIt", "()V"⟩
abbrev cX9_cell : ByteArray := prog_11_method_30_code
def yX9_cell : MethodName := ⟨RX9, "cell", "(II)I"⟩
abbrev cX9_lake : ByteArray := prog_11_method_31_code
def yX9_lake : MethodName := ⟨RX9, "lake", "(I)I"⟩
abbrev cX9_edge : ByteArray := prog_11_method_32_code
def yX9_edge : MethodName := ⟨RX9, "edge", "(I)I"⟩
abbrev cX9_comes : ByteArray := prog_11_method_33_code
def yX9_comes : MethodName := ⟨RX9, "comes", "(I)I"⟩
abbrev cX9_note : ByteArray := prog_11_method_34_code
def yX9_note : MethodName := ⟨RX9, "note", "(IIII)V"⟩
abbrev cX9_put : ByteArray := prog_11_method_35_code
def yX9_put : MethodName := ⟨RX9, "put", "(III)I"⟩
abbrev cX9_dig : ByteArray := prog_11_method_36_code
def yX9_dig : MethodName := ⟨RX9, "dig", "(II)I"⟩
abbrev cX9_pass : ByteArray := prog_11_method_37_code
def yX9_pass : MethodName := ⟨RX9, "pass", "(I)I"⟩
abbrev cX9_undo : ByteArray := prog_11_method_38_code
def yX9_undo : MethodName := ⟨RX9, "undo", "()I"⟩
abbrev cX9_areMinutes : ByteArray := prog_11_method_39_code
def yX9_areMinutes : MethodName := ⟨RX9, "areMinutes", "(I)Z"⟩
abbrev cX9_goOn : ByteArray := prog_11_method_40_code
def yX9_goOn : MethodName := ⟨RX9, "goOn", "(I)V"⟩
abbrev cX9_behind : ByteArray := prog_11_method_41_code
def yX9_behind : MethodName := ⟨RX9, "behind", "(II)I"⟩
abbrev cX9_worn : ByteArray := prog_11_method_42_code
def yX9_worn : MethodName := ⟨RX9, "worn", "(II)I"⟩
abbrev cX9_over : ByteArray := prog_11_method_43_code
def yX9_over : MethodName := ⟨RX9, "over", "(I)I"⟩
abbrev cX9_goneFrom : ByteArray := prog_11_method_44_code
def yX9_goneFrom : MethodName := ⟨RX9, "goneFrom", "()I"⟩
abbrev cX9_gone : ByteArray := prog_11_method_45_code
def yX9_gone : MethodName := ⟨RX9, "gone", "(I)I"⟩
abbrev cX9_nextRow : ByteArray := prog_11_method_46_code
def yX9_nextRow : MethodName := ⟨RX9, "nextRow", "()Z"⟩
abbrev cX9_layRow : ByteArray := prog_11_method_47_code
def yX9_layRow : MethodName := ⟨RX9, "layRow", "(I)Z"⟩
abbrev cX9_best : ByteArray := prog_11_method_48_code
def yX9_best : MethodName := ⟨RX9, "best", "(IIII)I"⟩
abbrev cX9_isGap : ByteArray := prog_11_method_49_code
def yX9_isGap : MethodName := ⟨RX9, "isGap", "(III)Z"⟩
abbrev cX9_gap : ByteArray := prog_11_method_50_code
def yX9_gap : MethodName := ⟨RX9, "gap", "(II)I"⟩
abbrev cX9_timeOf : ByteArray := prog_11_method_51_code
def yX9_timeOf : MethodName := ⟨RX9, "timeOf", "(I)I"⟩
abbrev cX9_together : ByteArray := prog_11_method_52_code
def yX9_together : MethodName := ⟨RX9, "together", "(I)I"⟩
abbrev cX9_isSlow : ByteArray := prog_11_method_53_code
def yX9_isSlow : MethodName := ⟨RX9, "isSlow", "(III)Z"⟩
abbrev cX9_slow : ByteArray := prog_11_method_54_code
def yX9_slow : MethodName := ⟨RX9, "slow", "(III)I"⟩
abbrev cX9_fill : ByteArray := prog_11_method_55_code
def yX9_fill : MethodName := ⟨RX9, "fill", "(I)I"⟩
abbrev cX9_trodden : ByteArray := prog_11_method_56_code
def yX9_trodden : MethodName := ⟨RX9, "trodden", "(II)I"⟩
abbrev cX9_breaches : ByteArray := prog_11_method_57_code
def yX9_breaches : MethodName := ⟨RX9, "breaches", "(I)I"⟩
abbrev cX9_blame : ByteArray := prog_11_method_58_code
def yX9_blame : MethodName := ⟨RX9, "blame", "()I"⟩
abbrev cX9_seen : ByteArray := prog_11_method_59_code
def yX9_seen : MethodName := ⟨RX9, "seen", "(II)I"⟩
abbrev cX9_forget : ByteArray := prog_11_method_60_code
def yX9_forget : MethodName := ⟨RX9, "forget", "()I"⟩
abbrev cX9_flows : ByteArray := prog_11_method_61_code
def yX9_flows : MethodName := ⟨RX9, "flows", "()I"⟩
abbrev cX9_holds : ByteArray := prog_11_method_62_code
def yX9_holds : MethodName := ⟨RX9, "holds", "(III)Z"⟩
abbrev cX9_odds : ByteArray := prog_11_method_63_code
def yX9_odds : MethodName := ⟨RX9, "odds", "(IIII)I"⟩
abbrev cX9_night : ByteArray := prog_11_method_64_code
def yX9_night : MethodName := ⟨RX9, "night", "(II)I"⟩
abbrev cX9_copy : ByteArray := prog_11_method_65_code
def yX9_copy : MethodName := ⟨RX9, "copy", "(II)V"⟩
abbrev cX9_keep : ByteArray := prog_11_method_66_code
def yX9_keep : MethodName := ⟨RX9, "keep", "()I"⟩
abbrev cX9_back : ByteArray := prog_11_method_67_code
def yX9_back : MethodName := ⟨RX9, "back", "()I"⟩
abbrev cX9_count : ByteArray := prog_11_method_68_code
def yX9_count : MethodName := ⟨RX9, "count", "(I)I"⟩
def RJ9 : String := "java/lang/Math"
def TJ9 : u_T := fun k => match k with
  | _ => ("", "", "", false)
def tyJ9 : Nat → FieldType := fun k => match k with
  | _ => .int
abbrev wsJ90 : List Cond := u_ws RJ9 TJ9 0
theorem nmJ9 : ∀ a, a < 0 → ∀ b, b < 0 → a ≠ b → (TJ9 a).2.1 ≠ (TJ9 b).2.1 := by decide +kernel
theorem tyJ9_ok : ∀ k, k < 0 → parseFieldDescriptor (TJ9 k).2.2.1 = some (tyJ9 k) := by decide +kernel
abbrev cJ9_max_7cf53 : ByteArray := prog_12_method_65_code
def yJ9_max_7cf53 : MethodName := ⟨RJ9, "max", "(II)I"⟩
abbrev cJ9_min_7cf53 : ByteArray := prog_12_method_69_code
def yJ9_min_7cf53 : MethodName := ⟨RJ9, "min", "(II)I"⟩
def RJ0 : String := "java/lang/String"
def TJ0 : u_T := fun k => match k with
  | _ => ("", "", "", false)
def tyJ0 : Nat → FieldType := fun k => match k with
  | _ => .int
abbrev wsJ00 : List Cond := u_ws RJ0 TJ0 0
theorem nmJ0 : ∀ a, a < 0 → ∀ b, b < 0 → a ≠ b → (TJ0 a).2.1 ≠ (TJ0 b).2.1 := by decide +kernel
theorem tyJ0_ok : ∀ k, k < 0 → parseFieldDescriptor (TJ0 k).2.2.1 = some (tyJ0 k) := by decide +kernel
abbrev cJ0_length_8abf5 : ByteArray := prog_13_method_54_code
def yJ0_length_8abf5 : MethodName := ⟨RJ0, "length", "()I"⟩
abbrev cJ0_charAt_5068e : ByteArray := prog_13_method_56_code
def yJ0_charAt_5068e : MethodName := ⟨RJ0, "charAt", "(I)C"⟩
abbrev cJ0_coder_7d493 : ByteArray := prog_13_method_152_code
def yJ0_coder_7d493 : MethodName := ⟨RJ0, "coder", "()B"⟩
abbrev cJ0_isLatin1_aae02 : ByteArray := prog_13_method_154_code
def yJ0_isLatin1_aae02 : MethodName := ⟨RJ0, "isLatin1", "()Z"⟩
abbrev cJ0_checkIndex_df160 : ByteArray := prog_13_method_155_code
def yJ0_checkIndex_df160 : MethodName := ⟨RJ0, "checkIndex", "(II)V"⟩
def RJ1 : String := "java/lang/StringLatin1"
def TJ1 : u_T := fun k => match k with
  | _ => ("", "", "", false)
def tyJ1 : Nat → FieldType := fun k => match k with
  | _ => .int
abbrev wsJ10 : List Cond := u_ws RJ1 TJ1 0
theorem nmJ1 : ∀ a, a < 0 → ∀ b, b < 0 → a ≠ b → (TJ1 a).2.1 ≠ (TJ1 b).2.1 := by decide +kernel
theorem tyJ1_ok : ∀ k, k < 0 → parseFieldDescriptor (TJ1 k).2.2.1 = some (tyJ1 k) := by decide +kernel
abbrev cJ1_charAt_3b067 : ByteArray := prog_14_method_2_code
def yJ1_charAt_3b067 : MethodName := ⟨RJ1, "charAt", "([BI)C"⟩
def RJ2 : String := "java/lang/StringUTF16"
def TJ2 : u_T := fun k => match k with
  | _ => ("", "", "", false)
def tyJ2 : Nat → FieldType := fun k => match k with
  | _ => .int
abbrev wsJ20 : List Cond := u_ws RJ2 TJ2 0
theorem nmJ2 : ∀ a, a < 0 → ∀ b, b < 0 → a ≠ b → (TJ2 a).2.1 ≠ (TJ2 b).2.1 := by decide +kernel
theorem tyJ2_ok : ∀ k, k < 0 → parseFieldDescriptor (TJ2 k).2.2.1 = some (tyJ2 k) := by decide +kernel
abbrev cJ2_getChar_3b067 : ByteArray := prog_15_method_5_code
def yJ2_getChar_3b067 : MethodName := ⟨RJ2, "getChar", "([BI)C"⟩
abbrev cJ2_length_9d52b : ByteArray := prog_15_method_6_code
def yJ2_length_9d52b : MethodName := ⟨RJ2, "length", "([B)I"⟩
abbrev cJ2_charAt_3b067 : ByteArray := prog_15_method_83_code
def yJ2_charAt_3b067 : MethodName := ⟨RJ2, "charAt", "([BI)C"⟩
abbrev cJ2_checkIndex_2214a : ByteArray := prog_15_method_91_code
def yJ2_checkIndex_2214a : MethodName := ⟨RJ2, "checkIndex", "(I[B)V"⟩
def RJ3 : String := "jdk/internal/util/Preconditions"
def TJ3 : u_T := fun k => match k with
  | _ => ("", "", "", false)
def tyJ3 : Nat → FieldType := fun k => match k with
  | _ => .int
abbrev wsJ30 : List Cond := u_ws RJ3 TJ3 0
theorem nmJ3 : ∀ a, a < 0 → ∀ b, b < 0 → a ≠ b → (TJ3 a).2.1 ≠ (TJ3 b).2.1 := by decide +kernel
theorem tyJ3_ok : ∀ k, k < 0 → parseFieldDescriptor (TJ3 k).2.2.1 = some (tyJ3 k) := by decide +kernel
abbrev cJ3_checkIndex_8e157 : ByteArray := prog_16_method_11_code
def yJ3_checkIndex_8e157 : MethodName := ⟨RJ3, "checkIndex", "(IILjava/util/function/BiFunction;)I"⟩
def RL : String := "DamOfTurfLaw"
abbrev cL_law : ByteArray := code
def yL_law : MethodName := ⟨RL, "law", "([I)Z"⟩
end
section
/-- the words of the tables that go on holding through calls -/
def lw_ok : List Cond := lw_tbl.filter goodWord
theorem lw_ok_in {w : Cond} (h : w ∈ lw_tbl) (g : goodWord w = true) : w ∈ lw_ok := List.mem_filter.mpr ⟨h, g⟩
theorem lw_g0 {w : Cond} (h : w ∈ k2_sels lw_privs) : w ∈ lw_tbl := List.mem_append_left _ h
theorem lw_g1 {w : Cond} (h : w ∈ tables_1_1) : w ∈ lw_tbl := List.mem_append_right _ (List.mem_append_left _ h)
theorem lw_g2 {w : Cond} (h : w ∈ tables_1_2) : w ∈ lw_tbl := List.mem_append_right _ (List.mem_append_right _ (List.mem_append_left _ h))
theorem lw_g3 {w : Cond} (h : w ∈ tables_1_3) : w ∈ lw_tbl := List.mem_append_right _ (List.mem_append_right _ (List.mem_append_right _ (List.mem_append_left _ h)))
theorem lw_g4 {w : Cond} (h : w ∈ tables_1_4) : w ∈ lw_tbl := List.mem_append_right _ (List.mem_append_right _ (List.mem_append_right _ (List.mem_append_right _ (List.mem_append_left _ h))))
theorem lw_g5 {w : Cond} (h : w ∈ tables_1_5) : w ∈ lw_tbl := List.mem_append_right _ (List.mem_append_right _ (List.mem_append_right _ (List.mem_append_right _ (List.mem_append_right _ (List.mem_append_left _ h)))))
theorem lw_g6 {w : Cond} (h : w ∈ tables_1_6) : w ∈ lw_tbl := List.mem_append_right _ (List.mem_append_right _ (List.mem_append_right _ (List.mem_append_right _ (List.mem_append_right _ (List.mem_append_right _ h)))))
theorem lw_ok_tbl {w : Cond} (h : w ∈ lw_ok) : w ∈ lw_tbl := (List.mem_filter.mp h).1
/-! ===== worlds of cells whose shape stays: what they hold is σ, cell by cell, place by place ===== -/
abbrev vv_S : Type := Nat → Nat → Int32
/-- the shape of a cell: an object (its class's place in vv_cl; of each field 0 an int, r + 1 the cell r), an int array of so many places, an array of references (its type's place, how many, the cell at place j is b + st j) -/
abbrev vv_Sh : Type := (Nat × List Nat) ⊕ (Nat ⊕ (Nat × Nat × Nat × Nat))
def vv_up (σ : vv_S) (k j : Nat) (v : Int32) : vv_S := fun c => if c = k then upd (σ c) j v else σ c
theorem vv_up_s {σ : vv_S} {k j : Nat} {v : Int32} : vv_up σ k j v k j = v := by simp [vv_up, upd]
theorem vv_up_c {σ : vv_S} {k j c i : Nat} {v : Int32} (h : c ≠ k) : vv_up σ k j v c i = σ c i := by simp [vv_up, h]
theorem vv_up_r {σ : vv_S} {k j c : Nat} {v : Int32} (h : c ≠ k) : vv_up σ k j v c = σ c := by simp [vv_up, h]
theorem vv_up_i {σ : vv_S} {k j i : Nat} {v : Int32} (h : i ≠ j) : vv_up σ k j v k i = σ k i := by simp [vv_up, upd, h]
theorem vv_up_row {σ : vv_S} {k j : Nat} {v : Int32} : vv_up σ k j v k = upd (σ k) j v := by simp [vv_up]
def vv_fs (q : Nat → Nat) (row : Nat → Int32) : Nat → List Nat → List Value
  | _, [] => []
  | j, 0 :: t => .int (row j) :: vv_fs q row (j + 1) t
  | j, (r + 1) :: t => .ref (q r) :: vv_fs q row (j + 1) t
theorem vv_fs_len {q : Nat → Nat} {row : Nat → Int32} : ∀ (fl : List Nat) (j : Nat), (vv_fs q row j fl).length = fl.length
  | [], _ => rfl
  | 0 :: t, j => congrArg (· + 1) (vv_fs_len t (j + 1))
  | (_ + 1) :: t, j => congrArg (· + 1) (vv_fs_len t (j + 1))
theorem vv_fs_int {q : Nat → Nat} {row : Nat → Int32} : ∀ (fl : List Nat) (j i : Nat), fl[i]? = some 0 → (vv_fs q row j fl)[i]? = some (.int (row (j + i)))
  | [], _, _, h => by simp at h
  | 0 :: t, j, 0, _ => rfl
  | (r + 1) :: t, j, 0, h => by simp at h
  | 0 :: t, j, i + 1, h => by
    have h2 := vv_fs_int (q := q) (row := row) t (j + 1) i (by simpa using h)
    rw [show j + (i + 1) = j + 1 + i by omega]
    simpa [vv_fs] using h2
  | (r + 1) :: t, j, i + 1, h => by
    have h2 := vv_fs_int (q := q) (row := row) t (j + 1) i (by simpa using h)
    rw [show j + (i + 1) = j + 1 + i by omega]
    simpa [vv_fs] using h2
theorem vv_fs_ref {q : Nat → Nat} {row : Nat → Int32} {r : Nat} : ∀ (fl : List Nat) (j i : Nat), fl[i]? = some (r + 1) → (vv_fs q row j fl)[i]? = some (.ref (q r))
  | [], _, _, h => by simp at h
  | 0 :: t, j, 0, h => by simp at h
  | (r' + 1) :: t, j, 0, h => by
    have : r' = r := by simpa using h
    subst this
    rfl
  | 0 :: t, j, i + 1, h => by
    have h2 := vv_fs_ref (q := q) (row := row) t (j + 1) i (by simpa using h)
    simpa [vv_fs] using h2
  | (r' + 1) :: t, j, i + 1, h => by
    have h2 := vv_fs_ref (q := q) (row := row) t (j + 1) i (by simpa using h)
    simpa [vv_fs] using h2
theorem vv_fs_congr {q : Nat → Nat} {row row' : Nat → Int32} : ∀ (fl : List Nat) (j : Nat), (∀ k, j ≤ k → row k = row' k) → vv_fs q row j fl = vv_fs q row' j fl
  | [], _, _ => rfl
  | 0 :: t, j, h => by
    show _ :: _ = _ :: _
    rw [h j (Nat.le_refl j), vv_fs_congr t (j + 1) (fun k hk => h k (by omega))]
  | (r + 1) :: t, j, h => by
    show _ :: _ = _ :: _
    rw [vv_fs_congr t (j + 1) (fun k hk => h k (by omega))]
theorem vv_fs_set {q : Nat → Nat} {row : Nat → Int32} {v : Int32} : ∀ (fl : List Nat) (j i : Nat), fl[i]? = some 0 → (vv_fs q row j fl).set i (.int v) = vv_fs q (upd row (j + i) v) j fl
  | [], _, _, h => by simp at h
  | 0 :: t, j, 0, _ => by
    show _ :: _ = _ :: _
    rw [show upd row (j + 0) v j = v by simp [upd], vv_fs_congr (row' := upd row (j + 0) v) t (j + 1) (fun k hk => by simp [upd, show k ≠ j by omega])]
  | (r + 1) :: t, j, 0, h => by simp at h
  | 0 :: t, j, i + 1, h => by
    have h2 := vv_fs_set (q := q) (row := row) (v := v) t (j + 1) i (by simpa using h)
    show _ :: _ = _ :: _
    rw [h2, show j + (i + 1) = j + 1 + i by omega]
    congr 2
    simp [upd, show j ≠ j + 1 + i by omega]
  | (r + 1) :: t, j, i + 1, h => by
    have h2 := vv_fs_set (q := q) (row := row) (v := v) t (j + 1) i (by simpa using h)
    show _ :: _ = _ :: _
    rw [h2, show j + (i + 1) = j + 1 + i by omega]
def vv_e (ty : Nat → ClassId) (q : Nat → Nat) (row : Nat → Int32) (s : vv_Sh) : va_E := match s with
  | .inl o => .inr (o.1, vv_fs q row 0 o.2)
  | .inr (.inl n) => .inl (ty 0, n, .inl row)
  | .inr (.inr a) => .inl (ty a.1, a.2.1, .inr (.inr (.inr (.inr (fun j => some (q (a.2.2.1 + a.2.2.2 * j)))))))
abbrev vv_Wd : Type := (Nat → vv_Sh) × Nat
def vv_W (w : vv_Wd) (ty : Nat → ClassId) (q : Nat → Nat) (σ : vv_S) : va_W := (List.range w.2).map (fun k => (q k, vv_e ty q (σ k) (w.1 k)))
theorem vv_W_get {w : vv_Wd} {ty : Nat → ClassId} {q : Nat → Nat} {σ : vv_S} {k : Nat} (h : k < w.2) : (vv_W w ty q σ)[k]? = some (q k, vv_e ty q (σ k) (w.1 k)) := by simp [vv_W, h]
theorem vv_W_none {w : vv_Wd} {ty : Nat → ClassId} {q : Nat → Nat} {σ : vv_S} {k : Nat} (h : ¬ k < w.2) : (vv_W w ty q σ)[k]? = none := by simp [vv_W]; omega
theorem vv_W_set {w : vv_Wd} {ty : Nat → ClassId} {q : Nat → Nat} {σ : vv_S} {k j : Nat} {v : Int32} {e : va_E} (h : k < w.2) (he : vv_e ty q (upd (σ k) j v) (w.1 k) = e) : (vv_W w ty q σ).set k (q k, e) = vv_W w ty q (vv_up σ k j v) := by
  apply List.ext_getElem?
  intro i
  rw [List.getElem?_set]
  by_cases e1 : k = i
  · subst e1
    rw [if_pos rfl, vv_W_get h, vv_up_row, he]
    have : k < (vv_W w ty q σ).length := by simp [vv_W, h]
    simp [this]
  · rw [if_neg e1]
    by_cases e2 : i < w.2
    · rw [vv_W_get e2, vv_W_get e2, vv_up_r (fun z => e1 z.symm)]
    · rw [vv_W_none e2, vv_W_none e2]
theorem vv_W_D {A : Nat → Prop} {w : vv_Wd} {ty : Nat → ClassId} {q : Nat → Nat} {σ σ' : vv_S} (h : va_D A (vv_W w ty q σ)) : va_D A (vv_W w ty q σ') := by
  have key : ∀ (k : Nat) (x : Nat × va_E), (vv_W w ty q σ')[k]? = some x → ∃ y, (vv_W w ty q σ)[k]? = some y ∧ y.1 = x.1 := by
    intro k x hx
    by_cases hk : k < w.2
    · rw [vv_W_get hk] at hx
      cases hx
      exact ⟨_, vv_W_get hk, rfl⟩
    · rw [vv_W_none hk] at hx
      cases hx
  refine ⟨fun i j x y hx hy hxy => ?_, fun k x hx => ?_⟩
  · obtain ⟨x', hx', e1⟩ := key i x hx
    obtain ⟨y', hy', e2⟩ := key j y hy
    exact h.1 i j x' y' hx' hy' (by rw [e1, e2, hxy])
  · obtain ⟨x', hx', e1⟩ := key k x hx
    rw [← e1]
    exact h.2 k x' hx'
theorem vv_W_A {w : vv_Wd} {ty : Nat → ClassId} {q : Nat → Nat} {σ σ' : vv_S} {sz a : Nat} (h : va_A (vv_W w ty q σ') sz a) : va_A (vv_W w ty q σ) sz a := by
  rcases h with ⟨k, e, h⟩ | h
  · by_cases hk : k < w.2
    · rw [vv_W_get hk] at h
      cases h
      exact Or.inl ⟨k, _, vv_W_get hk⟩
    · rw [vv_W_none hk] at h
      cases h
  · exact Or.inr h
/-- all classes of the worlds -/
abbrev vv_cl : List vw_C := [(RX0, TX0, 5), (RX1, TX1, 8), (RX2, TX2, 6), (RX3, TX3, 16), (RX4, TX4, 9), (RX5, TX5, 2), (RX6, TX6, 3), (RX7, TX7, 4), (RX8, TX8, 11), (RX9, TX9, 48)]
abbrev vv_tys (ty : Nat → ClassId) : List (ClassId × FieldType) := [(ty 0, .int), (ty 1, .object RX0), (ty 2, .array .int)]
/-- a world's setting: launch, classes, array classes, addresses, shape -/
abbrev vv_Y : Type := Launch × va_G × (Nat → ClassId) × (Nat → Nat) × vv_Wd
abbrev vv_q (Y : vv_Y) (k : Nat) : Nat := Y.2.2.2.1 k
abbrev vv_sh (Y : vv_Y) (k : Nat) : vv_Sh := Y.2.2.2.2.1 k
abbrev vv_w (Y : vv_Y) (σ : vv_S) : va_W := vv_W Y.2.2.2.2 Y.2.2.1 Y.2.2.2.1 σ
/-- a frame's setting -/
abbrev vv_X : Type := (Program × Env × Room × State × MethodId × Array Value × List Frame × Method × Code) × (Nat → Prop)
def vv_B (Y : vv_Y) (σ : vv_S) (U : State) : Prop := va_P Y.2.1 vv_cl (vv_w Y σ) U.heap ∧ va_K Y.2.1 vv_cl (vv_tys Y.2.2.1) U
/-- the machine, in the frame of a method, with these locals and this stack, the world holding σ -/
def VJ (Y : vv_Y) (X : vv_X) (K : Array Value → State → Outcome → State → Prop) (nL pc : Nat) (L : List (Nat × Value)) (st : List Value) (σ : vv_S) : Prop :=
  ∀ (H : Heap) (locs : List Loc) (ls : Array Slot), va_P Y.2.1 vv_cl (vv_w Y σ) H → va_S X.2 X.1.2.2.2.1.heap H locs → lv_has ls nL L →
    W X.1.1 Y.1 X.1.2.1 X.1.2.2.1 X.1.2.2.2.1 X.1.2.2.2.2.1 X.1.2.2.2.2.2.1 X.1.2.2.2.2.2.2.1 X.1.2.2.2.2.2.2.2.1 X.1.2.2.2.2.2.2.2.2 H locs 0 0 (MQ X.1.2.2.2.2.2.2.1 K X.1.2.2.2.2.2.1 X.1.2.2.2.1 0 0 X.2) (F0 X.1.2.2.2.2.1 pc ls st)
/-- the links to nest mates' private methods (not to constructors) -/
def vv_nest : List (String × Nat × MethodName × String) := [(RX2, 39, yX8_isStuff, "DamOfTurf"), (RX2, 43, yX8_isWithin, "DamOfTurf"), (RX4, 103, yX8_isStuff, "DamOfTurf"), (RX4, 107, yX8_isWithin, "DamOfTurf")]
def vv_Ne (U : State) : Prop := ∀ x ∈ vv_nest, va_Nw (.methodLinkNest x.1 x.2.1 x.2.2.1 x.2.2.2) U
theorem vv_Ne.warm {s U : State} (hW : s.WarmedH U.vm) (h : vv_Ne s) : vv_Ne U := fun x hx => va_Nw.warmM hW (h x hx)
theorem vv_Ne.same {s U : State} (e : s.vm = U.vm) (h : vv_Ne s) : vv_Ne U := fun x hx => va_Nw.same rfl e (h x hx)
def VC (Y : vv_Y) (X : vv_X) (own : String) (cc : ByteArray) (nL : Nat) (ret : Option FieldType) (fr lo : Nat) : Prop :=
  X.1.1.tables.exec = Jvm.exec ∧ X.1.2.2.2.2.2.2.2.2.code = cc ∧ X.1.2.2.2.2.2.2.2.2.maxLocals = nL ∧ X.1.2.2.2.1.vm.findClass own = some X.1.2.2.2.2.1.cls ∧ (∀ w ∈ lw_ok, w.before X.1.2.2.2.2.2.1 X.1.2.2.2.1 = true) ∧ va_K Y.2.1 vv_cl (vv_tys Y.2.2.1) X.1.2.2.2.1 ∧ (∀ q : Nat, X.1.2.2.2.1.heap.size ≤ q → X.2 q) ∧ X.1.2.2.2.2.2.2.2.1.locks = false ∧ va_D X.2 (vv_w Y (fun _ _ => 0)) ∧ X.1.2.2.2.2.2.2.2.1.sig.returnType = ret ∧ X.1.2.2.1 = { frames := fr, cells := 0, slots := 0, locals := lo } ∧ vv_Ne X.1.2.2.2.1
section VR
variable {Y : vv_Y} {X : vv_X} {K : Array Value → State → Outcome → State → Prop} {own : String} {cc : ByteArray} {nL : Nat} {ret : Option FieldType} {fr lo pc : Nat} {L L' : List (Nat × Value)} {st : List Value} {σ : vv_S}
theorem VC.hx (C : VC Y X own cc nL ret fr lo) : X.1.1.tables.exec = Jvm.exec := C.1
theorem VC.hb (C : VC Y X own cc nL ret fr lo) : X.1.2.2.2.2.2.2.2.2.code = cc := C.2.1
theorem VC.hml (C : VC Y X own cc nL ret fr lo) : X.1.2.2.2.2.2.2.2.2.maxLocals = nL := C.2.2.1
theorem VC.hown (C : VC Y X own cc nL ret fr lo) : X.1.2.2.2.1.vm.findClass own = some X.1.2.2.2.2.1.cls := C.2.2.2.1
theorem VC.hts (C : VC Y X own cc nL ret fr lo) : ∀ w ∈ lw_ok, w.before X.1.2.2.2.2.2.1 X.1.2.2.2.1 = true := C.2.2.2.2.1
theorem VC.hK (C : VC Y X own cc nL ret fr lo) : va_K Y.2.1 vv_cl (vv_tys Y.2.2.1) X.1.2.2.2.1 := C.2.2.2.2.2.1
theorem VC.hA (C : VC Y X own cc nL ret fr lo) : ∀ q : Nat, X.1.2.2.2.1.heap.size ≤ q → X.2 q := C.2.2.2.2.2.2.1
theorem VC.hlk (C : VC Y X own cc nL ret fr lo) : X.1.2.2.2.2.2.2.2.1.locks = false := C.2.2.2.2.2.2.2.1
theorem VC.hD (C : VC Y X own cc nL ret fr lo) (σ : vv_S) : va_D X.2 (vv_w Y σ) := vv_W_D C.2.2.2.2.2.2.2.2.1
theorem VC.hr (C : VC Y X own cc nL ret fr lo) : X.1.2.2.2.2.2.2.2.1.sig.returnType = ret := C.2.2.2.2.2.2.2.2.2.1
theorem VC.hR (C : VC Y X own cc nL ret fr lo) : X.1.2.2.1 = { frames := fr, cells := 0, slots := 0, locals := lo } := C.2.2.2.2.2.2.2.2.2.2.1
theorem VC.hN (C : VC Y X own cc nL ret fr lo) : vv_Ne X.1.2.2.2.1 := C.2.2.2.2.2.2.2.2.2.2.2
theorem VC.fix (C : VC Y X own cc nL ret fr lo) : CallFix X.1.1 X.1.2.2.2.2.1 X.1.2.2.2.2.2.2.2.2 cc nL X.1.2.2.2.1 X.1.2.2.2.2.2.1 lw_ok own := ⟨C.hx, C.hb, C.hml, C.hown, C.hts⟩
/-- a class's facts -/
def vv_Kc (ci : Nat) (Cn : String) (T : u_T) (N : Nat) : Prop := vv_cl[ci]? = some (Cn, T, N) ∧ (∀ w ∈ u_ws Cn T N, w ∈ lw_ok) ∧ (∀ a, a < N → ∀ b, b < N → a ≠ b → (T a).2.1 ≠ (T b).2.1) ∧ ∃ ty0 : Nat → FieldType, ∀ k, k < N → parseFieldDescriptor (T k).2.2.1 = some (ty0 k)
theorem vv_nm {e : Int32} (k : ∀ x, x = e → VJ Y X K nL pc L (.int x :: st) σ) : VJ Y X K nL pc L (.int e :: st) σ := k e rfl
theorem vv_sub (ks : List Nat) (hl : lv_pick L ks = L') (k : VJ Y X K nL pc L' st σ) : VJ Y X K nL pc L st σ := fun H locs ls hP hS h => k H locs ls hP hS (lv_sub h ks hl)
theorem vv_iconst (C : VC Y X own cc nL ret fr lo) {n : Int} {v : Int32} (hd : decode cc pc = .ok (.iconst n, 1)) (hv : Int32.ofInt n = v) (k : VJ Y X K nL (pc + 1) L (.int v :: st) σ) : VJ Y X K nL pc L st σ := fun H locs ls hP hS h => lv_iconst C.hx C.hb hd hv (k H locs ls hP hS h)
theorem vv_bipush (C : VC Y X own cc nL ret fr lo) {n : Int} {v : Int32} (hd : decode cc pc = .ok (.bipush n, 2)) (hv : (Int8.ofInt n).toInt32 = v) (k : VJ Y X K nL (pc + 2) L (.int v :: st) σ) : VJ Y X K nL pc L st σ := fun H locs ls hP hS h => lv_bipush C.hx C.hb hd hv (k H locs ls hP hS h)
theorem vv_sipush (C : VC Y X own cc nL ret fr lo) {n : Int} {v : Int32} (hd : decode cc pc = .ok (.sipush n, 3)) (hv : (Int16.ofInt n).toInt32 = v) (k : VJ Y X K nL (pc + 3) L (.int v :: st) σ) : VJ Y X K nL pc L st σ := fun H locs ls hP hS h => lv_sipush C.hx C.hb hd hv (k H locs ls hP hS h)
theorem vv_lconst (C : VC Y X own cc nL ret fr lo) {n : Fin 2} {v : Int64} (hd : decode cc pc = .ok (.lconst n, 1)) (hv : Int64.ofNat (n : Nat) = v) (k : VJ Y X K nL (pc + 1) L (.long v :: st) σ) : VJ Y X K nL pc L st σ := fun H locs ls hP hS h => lv_lconst C.hx C.hb hd hv (k H locs ls hP hS h)
theorem vv_ldc2 (C : VC Y X own cc nL ret fr lo) {index : Nat} {v : Int64} (hc : Cond.constantLong own index v ∈ lw_ok) (hd : decode cc pc = .ok (.ldc2_w index, 3)) (k : VJ Y X K nL (pc + 3) L (.long v :: st) σ) : VJ Y X K nL pc L st σ := fun H locs ls hP hS h => lv_ldc2 C.hx C.hb C.hown (C.hts _ hc) hd (k H locs ls hP hS h)
theorem vv_ldcw (C : VC Y X own cc nL ret fr lo) {index : Nat} {v : Int32} (hc : Cond.constant own index v ∈ lw_ok) (hd : decode cc pc = .ok (.ldc_w index, 3)) (k : VJ Y X K nL (pc + 3) L (.int v :: st) σ) : VJ Y X K nL pc L st σ := fun H locs ls hP hS h => lv_ldcw C.hx C.hb C.hown (C.hts _ hc) hd (k H locs ls hP hS h)
theorem vv_iload_n (C : VC Y X own cc nL ret fr lo) {j : Fin 4} {i : Nat} {x : Int32} (t : Nat) (hd : decode cc pc = .ok (.iload_n j, 1)) (hi : (j : Nat) = i) (hL : L[t]? = some (i, .int x)) (k : VJ Y X K nL (pc + 1) L (.int x :: st) σ) : VJ Y X K nL pc L st σ := fun H locs ls hP hS h => lv_iload_n C.hx C.hb hd hi (lv_at h t hL) (k H locs ls hP hS h)
theorem vv_iload (C : VC Y X own cc nL ret fr lo) {i : Nat} {x : Int32} (t : Nat) (hd : decode cc pc = .ok (.iload i, 2)) (hL : L[t]? = some (i, .int x)) (k : VJ Y X K nL (pc + 2) L (.int x :: st) σ) : VJ Y X K nL pc L st σ := fun H locs ls hP hS h => lv_iload C.hx C.hb hd (lv_at h t hL) (k H locs ls hP hS h)
theorem vv_lload_n (C : VC Y X own cc nL ret fr lo) {j : Fin 4} {i : Nat} {x : Int64} (t : Nat) (hd : decode cc pc = .ok (.lload_n j, 1)) (hi : (j : Nat) = i) (hL : L[t]? = some (i, .long x)) (k : VJ Y X K nL (pc + 1) L (.long x :: st) σ) : VJ Y X K nL pc L st σ := fun H locs ls hP hS h => lv_lload_n C.hx C.hb hd hi (lv_at h t hL) (k H locs ls hP hS h)
theorem vv_lload (C : VC Y X own cc nL ret fr lo) {i : Nat} {x : Int64} (t : Nat) (hd : decode cc pc = .ok (.lload i, 2)) (hL : L[t]? = some (i, .long x)) (k : VJ Y X K nL (pc + 2) L (.long x :: st) σ) : VJ Y X K nL pc L st σ := fun H locs ls hP hS h => lv_lload C.hx C.hb hd (lv_at h t hL) (k H locs ls hP hS h)
theorem vv_aload_n (C : VC Y X own cc nL ret fr lo) {j : Fin 4} {i : Nat} {x : Nat} (t : Nat) (hd : decode cc pc = .ok (.aload_n j, 1)) (hi : (j : Nat) = i) (hL : L[t]? = some (i, .ref x)) (k : VJ Y X K nL (pc + 1) L (.ref x :: st) σ) : VJ Y X K nL pc L st σ := fun H locs ls hP hS h => lv_aload_n C.hx C.hb hd hi (lv_at h t hL) (k H locs ls hP hS h)
theorem vv_aload (C : VC Y X own cc nL ret fr lo) {i : Nat} {x : Nat} (t : Nat) (hd : decode cc pc = .ok (.aload i, 2)) (hL : L[t]? = some (i, .ref x)) (k : VJ Y X K nL (pc + 2) L (.ref x :: st) σ) : VJ Y X K nL pc L st σ := fun H locs ls hP hS h => lv_aload C.hx C.hb hd (lv_at h t hL) (k H locs ls hP hS h)
theorem vv_istore_n (C : VC Y X own cc nL ret fr lo) {j : Fin 4} {i : Nat} {x : Int32} (hd : decode cc pc = .ok (.istore_n j, 1)) (hi : (j : Nat) = i) (hn : i < nL) (hl : (i, Value.int x) :: L.filter (fun q => !(q.1 == i) && !(q.1 + 1 == i && q.2.category == 2)) = L') (k : VJ Y X K nL (pc + 1) L' st σ) : VJ Y X K nL pc L (.int x :: st) σ := fun H locs ls hP hS h => lv_istore_n C.hx C.hb hd hi h hn hl (fun ls' h' => k H locs ls' hP hS h')
theorem vv_istore (C : VC Y X own cc nL ret fr lo) {i : Nat} {x : Int32} (hd : decode cc pc = .ok (.istore i, 2)) (hn : i < nL) (hl : (i, Value.int x) :: L.filter (fun q => !(q.1 == i) && !(q.1 + 1 == i && q.2.category == 2)) = L') (k : VJ Y X K nL (pc + 2) L' st σ) : VJ Y X K nL pc L (.int x :: st) σ := fun H locs ls hP hS h => lv_istore C.hx C.hb hd h hn hl (fun ls' h' => k H locs ls' hP hS h')
theorem vv_lstore_n (C : VC Y X own cc nL ret fr lo) {j : Fin 4} {i : Nat} {x : Int64} (hd : decode cc pc = .ok (.lstore_n j, 1)) (hi : (j : Nat) = i) (hn : i + 1 < nL) (hl : (i, Value.long x) :: L.filter (fun q => !(q.1 == i) && (!(q.1 == i + 1) && !(q.1 + 1 == i && q.2.category == 2))) = L') (k : VJ Y X K nL (pc + 1) L' st σ) : VJ Y X K nL pc L (.long x :: st) σ := fun H locs ls hP hS h => lv_lstore_n C.hx C.hb hd hi h hn hl (fun ls' h' => k H locs ls' hP hS h')
theorem vv_lstore (C : VC Y X own cc nL ret fr lo) {i : Nat} {x : Int64} (hd : decode cc pc = .ok (.lstore i, 2)) (hn : i + 1 < nL) (hl : (i, Value.long x) :: L.filter (fun q => !(q.1 == i) && (!(q.1 == i + 1) && !(q.1 + 1 == i && q.2.category == 2))) = L') (k : VJ Y X K nL (pc + 2) L' st σ) : VJ Y X K nL pc L (.long x :: st) σ := fun H locs ls hP hS h => lv_lstore C.hx C.hb hd h hn hl (fun ls' h' => k H locs ls' hP hS h')
theorem vv_iinc (C : VC Y X own cc nL ret fr lo) {i : Nat} (t : Nat) {n : Int} {x v : Int32} (hd : decode cc pc = .ok (.iinc i n, 3)) (hL : L[t]? = some (i, .int x)) (hv : x + Int32.ofInt n = v) (hn : i < nL) (hl : (i, Value.int v) :: L.filter (fun q => !(q.1 == i) && !(q.1 + 1 == i && q.2.category == 2)) = L') (k : VJ Y X K nL (pc + 3) L' st σ) : VJ Y X K nL pc L st σ := fun H locs ls hP hS h => lv_iinc C.hx C.hb hd h hL hv hn hl (fun ls' h' => k H locs ls' hP hS h')
theorem vv_iadd (C : VC Y X own cc nL ret fr lo) {x y : Int32} (hd : decode cc pc = .ok (.iadd, 1)) (k : VJ Y X K nL (pc + 1) L (.int (x + y) :: st) σ) : VJ Y X K nL pc L (.int y :: .int x :: st) σ := fun H locs ls hP hS h => lv_iadd C.hx C.hb hd (k H locs ls hP hS h)
theorem vv_isub (C : VC Y X own cc nL ret fr lo) {x y : Int32} (hd : decode cc pc = .ok (.isub, 1)) (k : VJ Y X K nL (pc + 1) L (.int (x - y) :: st) σ) : VJ Y X K nL pc L (.int y :: .int x :: st) σ := fun H locs ls hP hS h => lv_isub C.hx C.hb hd (k H locs ls hP hS h)
theorem vv_imul (C : VC Y X own cc nL ret fr lo) {x y : Int32} (hd : decode cc pc = .ok (.imul, 1)) (k : VJ Y X K nL (pc + 1) L (.int (x * y) :: st) σ) : VJ Y X K nL pc L (.int y :: .int x :: st) σ := fun H locs ls hP hS h => lv_imul C.hx C.hb hd (k H locs ls hP hS h)
theorem vv_iand (C : VC Y X own cc nL ret fr lo) {x y : Int32} (hd : decode cc pc = .ok (.iand, 1)) (k : VJ Y X K nL (pc + 1) L (.int (x &&& y) :: st) σ) : VJ Y X K nL pc L (.int y :: .int x :: st) σ := fun H locs ls hP hS h => lv_iand C.hx C.hb hd (k H locs ls hP hS h)
theorem vv_ior (C : VC Y X own cc nL ret fr lo) {x y : Int32} (hd : decode cc pc = .ok (.ior, 1)) (k : VJ Y X K nL (pc + 1) L (.int (x ||| y) :: st) σ) : VJ Y X K nL pc L (.int y :: .int x :: st) σ := fun H locs ls hP hS h => lv_ior C.hx C.hb hd (k H locs ls hP hS h)
theorem vv_ishl (C : VC Y X own cc nL ret fr lo) {x y : Int32} (hd : decode cc pc = .ok (.ishl, 1)) (k : VJ Y X K nL (pc + 1) L (.int (x <<< (y &&& 31)) :: st) σ) : VJ Y X K nL pc L (.int y :: .int x :: st) σ := fun H locs ls hP hS h => lv_ishl C.hx C.hb hd (k H locs ls hP hS h)
theorem vv_ishr (C : VC Y X own cc nL ret fr lo) {x y : Int32} (hd : decode cc pc = .ok (.ishr, 1)) (k : VJ Y X K nL (pc + 1) L (.int (x >>> (y &&& 31)) :: st) σ) : VJ Y X K nL pc L (.int y :: .int x :: st) σ := fun H locs ls hP hS h => lv_ishr C.hx C.hb hd (k H locs ls hP hS h)
theorem vv_idiv (C : VC Y X own cc nL ret fr lo) {x y : Int32} (hd : decode cc pc = .ok (.idiv, 1)) (hne : ¬ y = 0) (k : VJ Y X K nL (pc + 1) L (.int (x / y) :: st) σ) : VJ Y X K nL pc L (.int y :: .int x :: st) σ := fun H locs ls hP hS h => lv_idiv C.hx C.hb hd hne (k H locs ls hP hS h)
theorem vv_irem (C : VC Y X own cc nL ret fr lo) {x y : Int32} (hd : decode cc pc = .ok (.irem, 1)) (hne : ¬ y = 0) (k : VJ Y X K nL (pc + 1) L (.int (x - x / y * y) :: st) σ) : VJ Y X K nL pc L (.int y :: .int x :: st) σ := fun H locs ls hP hS h => lv_irem C.hx C.hb hd hne (k H locs ls hP hS h)
theorem vv_ladd (C : VC Y X own cc nL ret fr lo) {x y : Int64} (hd : decode cc pc = .ok (.ladd, 1)) (k : VJ Y X K nL (pc + 1) L (.long (x + y) :: st) σ) : VJ Y X K nL pc L (.long y :: .long x :: st) σ := fun H locs ls hP hS h => lv_ladd C.hx C.hb hd (k H locs ls hP hS h)
theorem vv_lmul (C : VC Y X own cc nL ret fr lo) {x y : Int64} (hd : decode cc pc = .ok (.lmul, 1)) (k : VJ Y X K nL (pc + 1) L (.long (x * y) :: st) σ) : VJ Y X K nL pc L (.long y :: .long x :: st) σ := fun H locs ls hP hS h => lv_lmul C.hx C.hb hd (k H locs ls hP hS h)
theorem vv_lrem (C : VC Y X own cc nL ret fr lo) {x y : Int64} (hd : decode cc pc = .ok (.lrem, 1)) (hne : ¬ y = 0) (k : VJ Y X K nL (pc + 1) L (.long (x - x / y * y) :: st) σ) : VJ Y X K nL pc L (.long y :: .long x :: st) σ := fun H locs ls hP hS h => lv_lrem C.hx C.hb hd hne (k H locs ls hP hS h)
theorem vv_i2l (C : VC Y X own cc nL ret fr lo) {x : Int32} (hd : decode cc pc = .ok (.i2l, 1)) (k : VJ Y X K nL (pc + 1) L (.long x.toInt64 :: st) σ) : VJ Y X K nL pc L (.int x :: st) σ := fun H locs ls hP hS h => lv_i2l C.hx C.hb hd rfl (k H locs ls hP hS h)
theorem vv_l2i (C : VC Y X own cc nL ret fr lo) {x : Int64} (hd : decode cc pc = .ok (.l2i, 1)) (k : VJ Y X K nL (pc + 1) L (.int x.toInt32 :: st) σ) : VJ Y X K nL pc L (.long x :: st) σ := fun H locs ls hP hS h => lv_l2i C.hx C.hb hd rfl (k H locs ls hP hS h)
theorem vv_lcmp (C : VC Y X own cc nL ret fr lo) {x y : Int64} (hd : decode cc pc = .ok (.lcmp, 1)) (k : VJ Y X K nL (pc + 1) L (.int (lg_cmp x y) :: st) σ) : VJ Y X K nL pc L (.long y :: .long x :: st) σ := fun H locs ls hP hS h => W.lcmp C.hx C.hb hd (k H locs ls hP hS h)
theorem vv_dup (C : VC Y X own cc nL ret fr lo) {va : Value} (hd : decode cc pc = .ok (.dup, 1)) (hv : va.category = 1) (k : VJ Y X K nL (pc + 1) L (va :: va :: st) σ) : VJ Y X K nL pc L (va :: st) σ := fun H locs ls hP hS h => lv_dup C.hx C.hb hd hv (k H locs ls hP hS h)
theorem vv_pop (C : VC Y X own cc nL ret fr lo) {va : Value} (hd : decode cc pc = .ok (.pop, 1)) (hv : va.category = 1) (k : VJ Y X K nL (pc + 1) L st σ) : VJ Y X K nL pc L (va :: st) σ := fun H locs ls hP hS h => lv_pop C.hx C.hb hd hv (k H locs ls hP hS h)
theorem vv_dup2 (C : VC Y X own cc nL ret fr lo) {va vb : Value} (hd : decode cc pc = .ok (.dup2, 1)) (ha : va.category = 1) (hb : vb.category = 1) (k : VJ Y X K nL (pc + 1) L (va :: vb :: va :: vb :: st) σ) : VJ Y X K nL pc L (va :: vb :: st) σ := fun H locs ls hP hS h => lv_dup2_11 C.hx C.hb hd ha hb (k H locs ls hP hS h)
theorem vv_goto (C : VC Y X own cc nL ret fr lo) {off : Int} {tgt : Nat} (hd : decode cc pc = .ok (.goto off, 3)) (ht : (pc : Int) + off = (tgt : Int)) (k : VJ Y X K nL tgt L st σ) : VJ Y X K nL pc L st σ := fun H locs ls hP hS h => lv_goto C.hx C.hb hd ht (k H locs ls hP hS h)
theorem vv_if_eq (C : VC Y X own cc nL ret fr lo) {x : Int32} {off : Int} (tgt : Nat) (hd : decode cc pc = .ok (.ifCond .eq off, 3)) (ht : (pc : Int) + off = (tgt : Int)) (kt : x = 0 → VJ Y X K nL tgt L st σ) (kf : ¬ x = 0 → VJ Y X K nL (pc + 3) L st σ) : VJ Y X K nL pc L (.int x :: st) σ := fun H locs ls hP hS h => lv_if_eq C.hx C.hb hd ht (fun c => kt c H locs ls hP hS h) (fun c => kf c H locs ls hP hS h)
theorem vv_if_ne (C : VC Y X own cc nL ret fr lo) {x : Int32} {off : Int} (tgt : Nat) (hd : decode cc pc = .ok (.ifCond .ne off, 3)) (ht : (pc : Int) + off = (tgt : Int)) (kt : ¬ x = 0 → VJ Y X K nL tgt L st σ) (kf : x = 0 → VJ Y X K nL (pc + 3) L st σ) : VJ Y X K nL pc L (.int x :: st) σ := fun H locs ls hP hS h => lv_if_ne C.hx C.hb hd ht (fun c => kt c H locs ls hP hS h) (fun c => kf c H locs ls hP hS h)
theorem vv_if_lt (C : VC Y X own cc nL ret fr lo) {x : Int32} {off : Int} (tgt : Nat) (hd : decode cc pc = .ok (.ifCond .lt off, 3)) (ht : (pc : Int) + off = (tgt : Int)) (kt : x < 0 → VJ Y X K nL tgt L st σ) (kf : ¬ x < 0 → VJ Y X K nL (pc + 3) L st σ) : VJ Y X K nL pc L (.int x :: st) σ := fun H locs ls hP hS h => lv_if_lt C.hx C.hb hd ht (fun c => kt c H locs ls hP hS h) (fun c => kf c H locs ls hP hS h)
theorem vv_if_ge (C : VC Y X own cc nL ret fr lo) {x : Int32} {off : Int} (tgt : Nat) (hd : decode cc pc = .ok (.ifCond .ge off, 3)) (ht : (pc : Int) + off = (tgt : Int)) (kt : 0 ≤ x → VJ Y X K nL tgt L st σ) (kf : ¬ 0 ≤ x → VJ Y X K nL (pc + 3) L st σ) : VJ Y X K nL pc L (.int x :: st) σ := fun H locs ls hP hS h => lv_if_ge C.hx C.hb hd ht (fun c => kt c H locs ls hP hS h) (fun c => kf c H locs ls hP hS h)
theorem vv_if_gt (C : VC Y X own cc nL ret fr lo) {x : Int32} {off : Int} (tgt : Nat) (hd : decode cc pc = .ok (.ifCond .gt off, 3)) (ht : (pc : Int) + off = (tgt : Int)) (kt : 0 < x → VJ Y X K nL tgt L st σ) (kf : ¬ 0 < x → VJ Y X K nL (pc + 3) L st σ) : VJ Y X K nL pc L (.int x :: st) σ := fun H locs ls hP hS h => lv_if_gt C.hx C.hb hd ht (fun c => kt c H locs ls hP hS h) (fun c => kf c H locs ls hP hS h)
theorem vv_if_le (C : VC Y X own cc nL ret fr lo) {x : Int32} {off : Int} (tgt : Nat) (hd : decode cc pc = .ok (.ifCond .le off, 3)) (ht : (pc : Int) + off = (tgt : Int)) (kt : x ≤ 0 → VJ Y X K nL tgt L st σ) (kf : ¬ x ≤ 0 → VJ Y X K nL (pc + 3) L st σ) : VJ Y X K nL pc L (.int x :: st) σ := fun H locs ls hP hS h => lv_if_le C.hx C.hb hd ht (fun c => kt c H locs ls hP hS h) (fun c => kf c H locs ls hP hS h)
theorem vv_icmp_eq (C : VC Y X own cc nL ret fr lo) {x y : Int32} {off : Int} (tgt : Nat) (hd : decode cc pc = .ok (.if_icmp .eq off, 3)) (ht : (pc : Int) + off = (tgt : Int)) (kt : x = y → VJ Y X K nL tgt L st σ) (kf : ¬ x = y → VJ Y X K nL (pc + 3) L st σ) : VJ Y X K nL pc L (.int y :: .int x :: st) σ := fun H locs ls hP hS h => lv_icmp_eq C.hx C.hb hd ht (fun c => kt c H locs ls hP hS h) (fun c => kf c H locs ls hP hS h)
theorem vv_icmp_ne (C : VC Y X own cc nL ret fr lo) {x y : Int32} {off : Int} (tgt : Nat) (hd : decode cc pc = .ok (.if_icmp .ne off, 3)) (ht : (pc : Int) + off = (tgt : Int)) (kt : ¬ x = y → VJ Y X K nL tgt L st σ) (kf : x = y → VJ Y X K nL (pc + 3) L st σ) : VJ Y X K nL pc L (.int y :: .int x :: st) σ := fun H locs ls hP hS h => lv_icmp_ne C.hx C.hb hd ht (fun c => kt c H locs ls hP hS h) (fun c => kf c H locs ls hP hS h)
theorem vv_icmp_lt (C : VC Y X own cc nL ret fr lo) {x y : Int32} {off : Int} (tgt : Nat) (hd : decode cc pc = .ok (.if_icmp .lt off, 3)) (ht : (pc : Int) + off = (tgt : Int)) (kt : x < y → VJ Y X K nL tgt L st σ) (kf : ¬ x < y → VJ Y X K nL (pc + 3) L st σ) : VJ Y X K nL pc L (.int y :: .int x :: st) σ := fun H locs ls hP hS h => lv_icmp_lt C.hx C.hb hd ht (fun c => kt c H locs ls hP hS h) (fun c => kf c H locs ls hP hS h)
theorem vv_icmp_ge (C : VC Y X own cc nL ret fr lo) {x y : Int32} {off : Int} (tgt : Nat) (hd : decode cc pc = .ok (.if_icmp .ge off, 3)) (ht : (pc : Int) + off = (tgt : Int)) (kt : y ≤ x → VJ Y X K nL tgt L st σ) (kf : ¬ y ≤ x → VJ Y X K nL (pc + 3) L st σ) : VJ Y X K nL pc L (.int y :: .int x :: st) σ := fun H locs ls hP hS h => lv_icmp_ge C.hx C.hb hd ht (fun c => kt c H locs ls hP hS h) (fun c => kf c H locs ls hP hS h)
theorem vv_icmp_gt (C : VC Y X own cc nL ret fr lo) {x y : Int32} {off : Int} (tgt : Nat) (hd : decode cc pc = .ok (.if_icmp .gt off, 3)) (ht : (pc : Int) + off = (tgt : Int)) (kt : y < x → VJ Y X K nL tgt L st σ) (kf : ¬ y < x → VJ Y X K nL (pc + 3) L st σ) : VJ Y X K nL pc L (.int y :: .int x :: st) σ := fun H locs ls hP hS h => lv_icmp_gt C.hx C.hb hd ht (fun c => kt c H locs ls hP hS h) (fun c => kf c H locs ls hP hS h)
theorem vv_icmp_le (C : VC Y X own cc nL ret fr lo) {x y : Int32} {off : Int} (tgt : Nat) (hd : decode cc pc = .ok (.if_icmp .le off, 3)) (ht : (pc : Int) + off = (tgt : Int)) (kt : x ≤ y → VJ Y X K nL tgt L st σ) (kf : ¬ x ≤ y → VJ Y X K nL (pc + 3) L st σ) : VJ Y X K nL pc L (.int y :: .int x :: st) σ := fun H locs ls hP hS h => lv_icmp_le C.hx C.hb hd ht (fun c => kt c H locs ls hP hS h) (fun c => kf c H locs ls hP hS h)
theorem vv_tabOut (C : VC Y X own cc nL ret fr lo) {dflt a b : Int} {offs : Array Int} {len : Nat} {x : Int32} (tgt : Nat) (hd : decode cc pc = .ok (.tableswitch dflt a b offs, len)) (hh : x.toInt < a ∨ b < x.toInt) (ht : (pc : Int) + dflt = (tgt : Int)) (k : VJ Y X K nL tgt L st σ) : VJ Y X K nL pc L (.int x :: st) σ := fun H locs ls hP hS h => lv_tableOut C.hx C.hb hd hh ht (k H locs ls hP hS h)
theorem vv_tabIn (C : VC Y X own cc nL ret fr lo) {dflt a b : Int} {offs : Array Int} {len : Nat} {x : Int32} {off : Int} (tgt : Nat) (hd : decode cc pc = .ok (.tableswitch dflt a b offs, len)) (h1 : ¬ x.toInt < a) (h2 : ¬ b < x.toInt) (ho : offs[(x.toInt - a).toNat]? = some off) (ht : (pc : Int) + off = (tgt : Int)) (k : VJ Y X K nL tgt L st σ) : VJ Y X K nL pc L (.int x :: st) σ := fun H locs ls hP hS h => lv_tableIn C.hx C.hb hd h1 h2 ho ht (k H locs ls hP hS h)
theorem vv_lookup (C : VC Y X own cc nL ret fr lo) {dflt : Int} {ps : Array (Int × Int)} {len : Nat} {x : Int32} {off : Int} (tgt : Nat) (hd : decode cc pc = .ok (.lookupswitch dflt ps, len)) (hp : (ps.toList.zip (ps.toList.drop 1)).all (fun (a, next) => a.1 < next.1) = true) (ho : Op.lookupswitch.offset ps.toList dflt x.toInt = off) (ht : (pc : Int) + off = (tgt : Int)) (k : VJ Y X K nL tgt L st σ) : VJ Y X K nL pc L (.int x :: st) σ := fun H locs ls hP hS h => lv_lookup C.hx C.hb hd hp ho ht (k H locs ls hP hS h)
/-- an int field -/
theorem vv_geti (C : VC Y X own cc nL ret fr lo) {ci N d idx : Nat} {Cn : String} {T : u_T} {fl : List Nat} (hk : vv_Kc ci Cn T N) (hs : d < Y.2.2.2.2.2 ∧ vv_sh Y d = .inl (ci, fl)) (k : Nat) (hkN : k < N) (hf : fl[k]? = some 0) (hl : Cond.fieldLink own idx (T k).1 (T k).2.1 (T k).2.2.1 ∈ lw_ok) (hd : decode cc pc = .ok (.getfield idx, 3)) (kk : VJ Y X K nL (pc + 3) L (.int (σ d k) :: st) σ) : VJ Y X K nL pc L (.ref (vv_q Y d) :: st) σ := fun H locs ls hP hS h => by
  have he : (vv_w Y σ)[d]? = some (vv_q Y d, .inr (ci, vv_fs Y.2.2.2.1 (σ d) 0 fl)) := by rw [vv_W_get hs.1]; rw [show Y.2.2.2.2.1 d = .inl (ci, fl) from hs.2]; rfl
  have hv := vv_fs_int (q := Y.2.2.2.1) (row := σ d) fl 0 k hf
  rw [Nat.zero_add] at hv
  exact va_get C.hx C.hb C.hts hk.2.1 C.hown C.hK hP d he hk.1 k hkN (C.hts _ hl) (fun _ h9 => h9) hv hd (kk H locs ls hP hS h)
/-- a field that is a cell -/
theorem vv_getr (C : VC Y X own cc nL ret fr lo) {ci N d idx r : Nat} {Cn : String} {T : u_T} {fl : List Nat} (hk : vv_Kc ci Cn T N) (hs : d < Y.2.2.2.2.2 ∧ vv_sh Y d = .inl (ci, fl)) (k : Nat) (hkN : k < N) (hf : fl[k]? = some (r + 1)) (hl : Cond.fieldLink own idx (T k).1 (T k).2.1 (T k).2.2.1 ∈ lw_ok) (hd : decode cc pc = .ok (.getfield idx, 3)) (kk : VJ Y X K nL (pc + 3) L (.ref (vv_q Y r) :: st) σ) : VJ Y X K nL pc L (.ref (vv_q Y d) :: st) σ := fun H locs ls hP hS h => by
  have he : (vv_w Y σ)[d]? = some (vv_q Y d, .inr (ci, vv_fs Y.2.2.2.1 (σ d) 0 fl)) := by rw [vv_W_get hs.1]; rw [show Y.2.2.2.2.1 d = .inl (ci, fl) from hs.2]; rfl
  exact va_get C.hx C.hb C.hts hk.2.1 C.hown C.hK hP d he hk.1 k hkN (C.hts _ hl) (fun _ h9 => h9) (vv_fs_ref (q := Y.2.2.2.1) (row := σ d) fl 0 k hf) hd (kk H locs ls hP hS h)
theorem vv_puti (C : VC Y X own cc nL ret fr lo) {ci N d idx : Nat} {Cn : String} {T : u_T} {fl : List Nat} {v : Int32} (hk : vv_Kc ci Cn T N) (hs : d < Y.2.2.2.2.2 ∧ vv_sh Y d = .inl (ci, fl)) (k : Nat) (hkN : k < N) (hf : fl[k]? = some 0) (hp : parseFieldDescriptor (T k).2.2.1 = some .int ∧ (T k).2.2.2 = false) (hl : Cond.fieldLink own idx (T k).1 (T k).2.1 (T k).2.2.1 ∈ lw_ok) (hd : decode cc pc = .ok (.putfield idx, 3)) (kk : ∀ σ', σ' = vv_up σ d k v → VJ Y X K nL (pc + 3) L st σ') : VJ Y X K nL pc L (.int v :: .ref (vv_q Y d) :: st) σ := fun H locs ls hP hS h => by
  have he : (vv_w Y σ)[d]? = some (vv_q Y d, .inr (ci, vv_fs Y.2.2.2.1 (σ d) 0 fl)) := by rw [vv_W_get hs.1]; rw [show Y.2.2.2.2.1 d = .inl (ci, fl) from hs.2]; rfl
  obtain ⟨ty0, hty⟩ := hk.2.2.2
  have hlen : k < (vv_fs Y.2.2.2.1 (σ d) 0 fl).length := by rw [vv_fs_len]; exact (List.getElem?_eq_some_iff.mp hf).1
  refine va_put C.hx C.hb C.hts hk.2.1 ty0 hty hk.2.2.1 C.hown C.hK hP (C.hD σ) hS d he hk.1 k hkN (C.hts _ hl) (fun _ h9 => h9) hp.2 (ty := .int) (v := .int v) hp.1 rfl rfl hlen hd (fun H1 locs1 hP1 _ hS1 => kk _ rfl H1 locs1 ls ?_ hS1 h)
  have e1 := vv_fs_set (q := Y.2.2.2.1) (row := σ d) (v := v) fl 0 k hf
  rw [Nat.zero_add] at e1
  rw [e1] at hP1
  have e2 := vv_W_set (w := Y.2.2.2.2) (ty := Y.2.2.1) (q := Y.2.2.2.1) (σ := σ) (k := d) (j := k) (v := v) (e := .inr (ci, vv_fs Y.2.2.2.1 (upd (σ d) k v) 0 fl)) hs.1 (by rw [show Y.2.2.2.2.1 d = .inl (ci, fl) from hs.2]; rfl)
  show va_P Y.2.1 vv_cl (vv_W Y.2.2.2.2 Y.2.2.1 Y.2.2.2.1 (vv_up σ d k v)) H1
  rw [← e2]
  exact hP1
theorem vv_iald (C : VC Y X own cc nL ret fr lo) {a n j : Nat} {i : Int32} (hs : a < Y.2.2.2.2.2 ∧ vv_sh Y a = .inr (.inl n)) (hi : vp_in i n) (hj : i.toNatClampNeg = j) (hd : decode cc pc = .ok (.iaload, 1)) (kk : VJ Y X K nL (pc + 1) L (.int (σ a j) :: st) σ) : VJ Y X K nL pc L (.int i :: .ref (vv_q Y a) :: st) σ := fun H locs ls hP hS h => by
  have he : (vv_w Y σ)[a]? = some (vv_q Y a, .inl (Y.2.2.1 0, n, .inl (σ a))) := by rw [vv_W_get hs.1]; rw [show Y.2.2.2.2.1 a = .inr (.inl n) from hs.2]; rfl
  subst hj
  exact va_iald C.hx C.hb C.hK hP a 0 he rfl hi hd (kk H locs ls hP hS h)
theorem vv_iast (C : VC Y X own cc nL ret fr lo) {a n j : Nat} {i v : Int32} (hs : a < Y.2.2.2.2.2 ∧ vv_sh Y a = .inr (.inl n)) (hi : vp_in i n) (hj : i.toNatClampNeg = j) (hd : decode cc pc = .ok (.iastore, 1)) (kk : ∀ σ', σ' = vv_up σ a j v → VJ Y X K nL (pc + 1) L st σ') : VJ Y X K nL pc L (.int v :: .int i :: .ref (vv_q Y a) :: st) σ := fun H locs ls hP hS h => by
  have he : (vv_w Y σ)[a]? = some (vv_q Y a, .inl (Y.2.2.1 0, n, .inl (σ a))) := by rw [vv_W_get hs.1]; rw [show Y.2.2.2.2.1 a = .inr (.inl n) from hs.2]; rfl
  subst hj
  refine va_iast C.hx C.hb C.hK hP (C.hD σ) hS a 0 he rfl hi hd (fun H1 locs1 hP1 _ hS1 => kk _ rfl H1 locs1 ls ?_ hS1 h)
  have e2 := vv_W_set (w := Y.2.2.2.2) (ty := Y.2.2.1) (q := Y.2.2.2.1) (σ := σ) (k := a) (j := i.toNatClampNeg) (v := v) (e := .inl (Y.2.2.1 0, n, .inl (upd (σ a) i.toNatClampNeg v))) hs.1 (by rw [show Y.2.2.2.2.1 a = .inr (.inl n) from hs.2]; rfl)
  show va_P Y.2.1 vv_cl (vv_W Y.2.2.2.2 Y.2.2.1 Y.2.2.2.1 (vv_up σ a i.toNatClampNeg v)) H1
  rw [← e2]
  exact hP1
/-- a place of an array of objects -/
theorem vv_aaldO (C : VC Y X own cc nL ret fr lo) {a n b st' : Nat} {i : Int32} (hs : a < Y.2.2.2.2.2 ∧ vv_sh Y a = .inr (.inr (1, n, b, st'))) (hi : vp_in i n) (hd : decode cc pc = .ok (.aaload, 1)) (kk : VJ Y X K nL (pc + 1) L (.ref (vv_q Y (b + st' * i.toNatClampNeg)) :: st) σ) : VJ Y X K nL pc L (.int i :: .ref (vv_q Y a) :: st) σ := fun H locs ls hP hS h => by
  have he : (vv_w Y σ)[a]? = some (vv_q Y a, .inl (Y.2.2.1 1, n, .inr (.inr (.inr (.inr (fun j => some (vv_q Y (b + st' * j)))))))) := by rw [vv_W_get hs.1]; rw [show Y.2.2.2.2.1 a = .inr (.inr (1, n, b, st')) from hs.2]; rfl
  exact va_aldq C.hx C.hb C.hK hP a 1 he rfl hi hd (kk H locs ls hP hS h)
/-- a row of an array of arrays -/
theorem vv_aaldA (C : VC Y X own cc nL ret fr lo) {a n b st' : Nat} {i : Int32} (hs : a < Y.2.2.2.2.2 ∧ vv_sh Y a = .inr (.inr (2, n, b, st'))) (hi : vp_in i n) (hd : decode cc pc = .ok (.aaload, 1)) (kk : VJ Y X K nL (pc + 1) L (.ref (vv_q Y (b + st' * i.toNatClampNeg)) :: st) σ) : VJ Y X K nL pc L (.int i :: .ref (vv_q Y a) :: st) σ := fun H locs ls hP hS h => by
  have he : (vv_w Y σ)[a]? = some (vv_q Y a, .inl (Y.2.2.1 2, n, .inr (.inr (.inr (.inr (fun j => some (vv_q Y (b + st' * j)))))))) := by rw [vv_W_get hs.1]; rw [show Y.2.2.2.2.1 a = .inr (.inr (2, n, b, st')) from hs.2]; rfl
  have hlt : i.toNatClampNeg < n := Nat.not_le.mp fun q => hi (Or.inr q)
  exact W.aald (v := .ref (vv_q Y (b + st' * i.toNatClampNeg))) (ty := .array .int) C.hx C.hb (hP a _ he) ((C.hK.2 2 _ rfl).1 n (fun j => va_rf (some (vv_q Y (b + st' * j))))) rfl (fun q => by cases q) (by show ¬ (i < 0 ∨ (arrV _ _ _).slots.size ≤ _); rw [arrV_size]; exact hi) (by show (arrV _ _ _).slots[_]? = _; rw [arrV_read _ _ hlt]; rfl) rfl rfl hd (kk H locs ls hP hS h)
theorem vv_max (C : VC Y X own cc nL ret fr lo) {index : Nat} {x y : Int32} (hl : Cond.methodLink own index Lib.Math.max.name ∈ lw_ok) (hm : Cond.static Lib.Math.max.name ∈ lw_ok ∧ Cond.initialized "java/lang/Math" ∈ lw_ok ∧ Cond.code Lib.Math.max.name Lib.Math.max.code 2 (some .int) ∈ lw_ok) (hf : 1 ≤ fr) (hlo : (st.map fun v => v.category).sum + 13 ≤ lo) (hd : decode cc pc = .ok (.invokestatic index, 3)) (kk : VJ Y X K nL (pc + 3) L (.int (if x < y then y else x) :: st) σ) : VJ Y X K nL pc L (.int y :: .int x :: st) σ := fun H locs ls hP hS h =>
  va_mmax C.hx C.hb (C.hml.trans h.1.symm) C.hown (C.hts _ hl) (C.hts _ hm.1) (C.hts _ hm.2.1) (C.hts _ hm.2.2) (by rw [C.hR]; exact hf) (by rw [C.hR]; exact hlo) (Nat.zero_le _) (Nat.zero_le _) hd (kk H locs ls hP hS h)
theorem vv_min (C : VC Y X own cc nL ret fr lo) {index : Nat} {x y : Int32} (hl : Cond.methodLink own index Lib.Math.min.name ∈ lw_ok) (hm : Cond.static Lib.Math.min.name ∈ lw_ok ∧ Cond.initialized "java/lang/Math" ∈ lw_ok ∧ Cond.code Lib.Math.min.name Lib.Math.min.code 2 (some .int) ∈ lw_ok) (hf : 1 ≤ fr) (hlo : (st.map fun v => v.category).sum + 13 ≤ lo) (hd : decode cc pc = .ok (.invokestatic index, 3)) (kk : VJ Y X K nL (pc + 3) L (.int (if y < x then y else x) :: st) σ) : VJ Y X K nL pc L (.int y :: .int x :: st) σ := fun H locs ls hP hS h =>
  va_mmin C.hx C.hb (C.hml.trans h.1.symm) C.hown (C.hts _ hl) (C.hts _ hm.1) (C.hts _ hm.2.1) (C.hts _ hm.2.2) (by rw [C.hR]; exact hf) (by rw [C.hR]; exact hlo) (Nat.zero_le _) (Nat.zero_le _) hd (kk H locs ls hP hS h)
theorem vv_B_of (C : VC Y X own cc nL ret fr lo) {H : Heap} {t : State} (hP : va_P Y.2.1 vv_cl (vv_w Y σ) H) (ht : t.heap = H) (hW : X.1.2.2.2.1.WarmedH t.vm) : vv_B Y σ t := ⟨by rw [ht]; exact hP, va_K.moved hW.alike C.hK⟩
theorem vv_iret {post : Int32 → vv_S → Prop} {v : Int32} (C : VC Y X own cc nL (some .int) fr lo) (hd : decode cc pc = .ok (.ireturn, 1)) (h : post v σ) : VJ Y X (va_Qi post (vv_B Y) X.2) nL pc L [.int v] σ := fun H locs ls hP hS _ =>
  W.iret C.hx C.hb C.hr (fun t ht hW => ⟨⟨v, σ, rfl, h, vv_B_of C hP ht hW⟩, hS.F ht⟩) hS.2.2 hd C.hlk
theorem vv_zret {post : Int32 → vv_S → Prop} {v : Int32} (C : VC Y X own cc nL (some .boolean) fr lo) (hv : v = 0 ∨ v = 1) (hd : decode cc pc = .ok (.ireturn, 1)) (h : post v σ) : VJ Y X (va_Qi post (vv_B Y) X.2) nL pc L [.int v] σ := fun H locs ls hP hS _ =>
  W.zret C.hx C.hb C.hr (by rcases hv with rfl | rfl <;> rfl) (fun t ht hW => ⟨⟨v, σ, rfl, h, vv_B_of C hP ht hW⟩, hS.F ht⟩) hS.2.2 hd C.hlk
theorem vv_vret {post : vv_S → Prop} (C : VC Y X own cc nL none fr lo) (hd : decode cc pc = .ok (.return_, 1)) (h : post σ) : VJ Y X (va_Qv post (vv_B Y) X.2) nL pc L [] σ := fun H locs ls hP hS _ =>
  W.vret C.hx C.hb C.hr (fun t ht hW => ⟨⟨σ, rfl, h, vv_B_of C hP ht hW⟩, hS.F ht⟩) hS.2.2 hd C.hlk
theorem vv_aret {post : vv_S → Prop} {r : Nat} {n : String} (C : VC Y X own cc nL (some (.object n)) fr lo) (hd : decode cc pc = .ok (.areturn, 1)) (h : post σ) : VJ Y X (va_Qr post (fun u a t => a = vv_q Y r ∧ vv_B Y u t) X.2) nL pc L [.ref (vv_q Y r)] σ := fun H locs ls hP hS _ =>
  W.aret C.hx C.hb C.hr (Or.inl ⟨n, rfl⟩) (Or.inr ⟨_, rfl⟩) (fun t ht hW => ⟨⟨σ, vv_q Y r, rfl, h, rfl, vv_B_of C hP ht hW⟩, hS.F ht⟩) hS.2.2 hd C.hlk
end VR
end
section
theorem lw_good {y : MethodName} {cc : ByteArray} {maxL : Nat} {ret : Option FieldType} (h : Cond.code y cc maxL ret ∈ lw_ok) : GoodIn lw_ok (.code y cc maxL ret :: lw_ok) := by
  intro w hw
  have hm : w ∈ lw_ok := by
    rcases List.mem_cons.mp hw with rfl | h2
    · exact h
    · exact h2
  exact ⟨hm, good_of_word (List.mem_filter.mp hm).2⟩
/-- contracts over a world of fixed shape: from σ, with these arguments, what 'post' says comes of it -/
def vv_MI (Y : vv_Y) (y : MethodName) (cc : ByteArray) (maxL : Nat) (ret : Option FieldType) (fr lo : Nat) (av : List Value) (σ : vv_S) (post : Int32 → vv_S → Prop) : Prop :=
  ∀ sz : Nat, Met Y.1 y (.code y cc maxL ret :: lw_ok) { frames := fr, cells := 0, slots := 0, locals := lo } (va_Pc av (fun U => U.heap.size = sz ∧ vv_B Y σ U ∧ vv_Ne U ∧ va_D (fun _ => True) (vv_w Y σ))) (va_Qi post (vv_B Y) (va_A (vv_w Y σ) sz)) 0 0 (va_A (vv_w Y σ) sz)
def vv_MV (Y : vv_Y) (y : MethodName) (cc : ByteArray) (maxL : Nat) (ret : Option FieldType) (fr lo : Nat) (av : List Value) (σ : vv_S) (post : vv_S → Prop) : Prop :=
  ∀ sz : Nat, Met Y.1 y (.code y cc maxL ret :: lw_ok) { frames := fr, cells := 0, slots := 0, locals := lo } (va_Pc av (fun U => U.heap.size = sz ∧ vv_B Y σ U ∧ vv_Ne U ∧ va_D (fun _ => True) (vv_w Y σ))) (va_Qv post (vv_B Y) (va_A (vv_w Y σ) sz)) 0 0 (va_A (vv_w Y σ) sz)
/-- the answer is the cell r -/
def vv_MR (Y : vv_Y) (y : MethodName) (cc : ByteArray) (maxL : Nat) (ret : Option FieldType) (fr lo : Nat) (av : List Value) (σ : vv_S) (r : Nat) (post : vv_S → Prop) : Prop :=
  ∀ sz : Nat, Met Y.1 y (.code y cc maxL ret :: lw_ok) { frames := fr, cells := 0, slots := 0, locals := lo } (va_Pc av (fun U => U.heap.size = sz ∧ vv_B Y σ U ∧ vv_Ne U ∧ va_D (fun _ => True) (vv_w Y σ))) (va_Qr post (fun u a t => a = vv_q Y r ∧ vv_B Y u t) (va_A (vv_w Y σ) sz)) 0 0 (va_A (vv_w Y σ) sz)
section VM
variable {Y : vv_Y} {y : MethodName} {cc : ByteArray} {maxL : Nat} {ret : Option FieldType} {fr lo : Nat} {av : List Value} {σ : vv_S}
theorem vv_ofI {post : Int32 → vv_S → Prop} (hy : plainName y.cls = true) (hlen : (lg_sl av).length ≤ maxL) (body : ∀ X : vv_X, VC Y X y.cls cc maxL ret fr lo → VJ Y X (va_Qi post (vv_B Y) X.2) maxL 0 (lv_args 0 av) [] σ) : vv_MI Y y cc maxL ret fr lo av σ post := by
  intro sz
  refine Met.ofW (cc := cc) (maxL := maxL) (ret := ret) hy rfl ?_
  intro p e s m args below meth c s₁ B hml hv
  obtain ⟨rfl, hsz, ⟨hP, hK⟩, hN, hD0⟩ := hv
  subst hsz
  have hts := atoms_spec (ws := .code y cc maxL ret :: lw_ok) B.pre
  have hb := body ((p, e, _, s, m, av.toArray, below, meth, c), va_A (vv_w Y σ) s.heap.size) ⟨B.exec, B.bytes, hml, findClass_of_methodNamed B.named, fun w hw => hts w (List.mem_cons_of_mem _ hw), hK, fun q h => Or.inr h, B.notSynchronized, vv_W_D (hD0.self (sz := s.heap.size)), B.returns, rfl, hN⟩
  have hl := lv_entry av (n := maxL) hlen
  rw [lg_entry_eq]
  exact hb s.heap [] _ hP va_S.rf hl
theorem vv_ofV {post : vv_S → Prop} (hy : plainName y.cls = true) (hlen : (lg_sl av).length ≤ maxL) (body : ∀ X : vv_X, VC Y X y.cls cc maxL ret fr lo → VJ Y X (va_Qv post (vv_B Y) X.2) maxL 0 (lv_args 0 av) [] σ) : vv_MV Y y cc maxL ret fr lo av σ post := by
  intro sz
  refine Met.ofW (cc := cc) (maxL := maxL) (ret := ret) hy rfl ?_
  intro p e s m args below meth c s₁ B hml hv
  obtain ⟨rfl, hsz, ⟨hP, hK⟩, hN, hD0⟩ := hv
  subst hsz
  have hts := atoms_spec (ws := .code y cc maxL ret :: lw_ok) B.pre
  have hb := body ((p, e, _, s, m, av.toArray, below, meth, c), va_A (vv_w Y σ) s.heap.size) ⟨B.exec, B.bytes, hml, findClass_of_methodNamed B.named, fun w hw => hts w (List.mem_cons_of_mem _ hw), hK, fun q h => Or.inr h, B.notSynchronized, vv_W_D (hD0.self (sz := s.heap.size)), B.returns, rfl, hN⟩
  have hl := lv_entry av (n := maxL) hlen
  rw [lg_entry_eq]
  exact hb s.heap [] _ hP va_S.rf hl
theorem vv_ofR {r : Nat} {post : vv_S → Prop} (hy : plainName y.cls = true) (hlen : (lg_sl av).length ≤ maxL) (body : ∀ X : vv_X, VC Y X y.cls cc maxL ret fr lo → VJ Y X (va_Qr post (fun u a t => a = vv_q Y r ∧ vv_B Y u t) X.2) maxL 0 (lv_args 0 av) [] σ) : vv_MR Y y cc maxL ret fr lo av σ r post := by
  intro sz
  refine Met.ofW (cc := cc) (maxL := maxL) (ret := ret) hy rfl ?_
  intro p e s m args below meth c s₁ B hml hv
  obtain ⟨rfl, hsz, ⟨hP, hK⟩, hN, hD0⟩ := hv
  subst hsz
  have hts := atoms_spec (ws := .code y cc maxL ret :: lw_ok) B.pre
  have hb := body ((p, e, _, s, m, av.toArray, below, meth, c), va_A (vv_w Y σ) s.heap.size) ⟨B.exec, B.bytes, hml, findClass_of_methodNamed B.named, fun w hw => hts w (List.mem_cons_of_mem _ hw), hK, fun q h => Or.inr h, B.notSynchronized, vv_W_D (hD0.self (sz := s.heap.size)), B.returns, rfl, hN⟩
  have hl := lv_entry av (n := maxL) hlen
  rw [lg_entry_eq]
  exact hb s.heap [] _ hP va_S.rf hl
end VM
/-- what a call needs of the tables -/
def vv_yok (y : MethodName) (cc : ByteArray) (maxL : Nat) (ret : Option FieldType) (n : Nat) : Prop := Cond.code y cc maxL ret ∈ lw_ok ∧ Cond.initialized y.cls ∈ lw_ok ∧ (y.cls ≠ "java/lang/invoke/MethodHandle" ∧ y.cls ≠ "java/lang/invoke/VarHandle" ∧ (parseMethodDescriptor y.desc).map (fun d => d.parameters.length) = some n)
def vv_vok (y : MethodName) : Prop := Cond.instanceMethod y ∈ lw_ok ∧ Cond.selects y.cls y y ∈ lw_ok
section VCA
variable {Y : vv_Y} {X : vv_X} {K : Array Value → State → Outcome → State → Prop} {own : String} {cc : ByteArray} {nL : Nat} {ret : Option FieldType} {fr lo pc : Nat} {L L' : List (Nat × Value)} {st : List Value} {σ : vv_S}
variable {y : MethodName} {cc2 : ByteArray} {maxL2 : Nat} {ret2 : Option FieldType} {fr2 lo2 n idx b ci N r : Nat} {fl : List Nat} {T : u_T} {As rest : List Value}
theorem vv_cwB (C : VC Y X own cc nL ret fr lo) (hy : vv_yok y cc2 maxL2 ret2 n) (hl : Cond.methodLink own idx y ∈ lw_ok) (hR : fr2 + 1 ≤ fr ∧ 8 + (maxL2 + 11) + lo2 ≤ lo) : CallB X.1.2.2.1 X.1.2.2.2.1 X.1.2.2.2.2.2.1 own idx y cc2 maxL2 ret2 (.code y cc2 maxL2 ret2 :: lw_ok) { frames := fr2, cells := 0, slots := 0, locals := lo2 } 0 0 n :=
  callB_of n C.hts (lw_good hy.1) rfl rfl rfl (C.hts _ hy.2.1) (C.hts _ hl) hy.2.2 (by rw [C.hR]; exact hR)
theorem vv_cnB (C : VC Y X own cc nL ret fr lo) {host : String} (hy : vv_yok y cc2 maxL2 ret2 n) (hl : (own, idx, y, host) ∈ vv_nest) (hR : fr2 + 1 ≤ fr ∧ 8 + (maxL2 + 11) + lo2 ≤ lo) : va_CN X.1.2.2.1 X.1.2.2.2.1 X.1.2.2.2.2.2.1 own idx y host cc2 maxL2 ret2 (.code y cc2 maxL2 ret2 :: lw_ok) { frames := fr2, cells := 0, slots := 0, locals := lo2 } 0 0 n :=
  va_cnB n C.hts (lw_good hy.1) rfl rfl rfl (C.hN _ hl) (C.hts _ hy.2.1) hy.2.2 (by rw [C.hR]; exact hR)
theorem vv_blind {av : List Value} {sz : Nat} : FrameBlind (va_Pc av (fun U => U.heap.size = sz ∧ vv_B Y σ U ∧ vv_Ne U ∧ va_D (fun _ => True) (vv_w Y σ))) := fun a U g mk q => by
  obtain ⟨q0, q1, ⟨qP, qK⟩, qN, qD⟩ := q
  exact ⟨q0, q1, ⟨qP, va_K.moved (u := U) (U := U.calling g mk a) (Vm.Alike.refl U.vm) qK⟩, vv_Ne.same (s := U) (U := U.calling g mk a) rfl qN, qD⟩
theorem vv_frees (C : VC Y X own cc nL ret fr lo) {H : Heap} {locs : List Loc} (hS : va_S X.2 X.1.2.2.2.1.heap H locs) : ∀ q, va_A (vv_w Y σ) H.size q → X.2 q := by
  intro q h
  rcases h with ⟨k, e, h⟩ | h
  · exact (C.hD σ).2 k _ h
  · exact C.hA q (Nat.le_trans hS.1 h)
theorem vv_pre (C : VC Y X own cc nL ret fr lo) {H : Heap} (hP : va_P Y.2.1 vv_cl (vv_w Y σ) H) (av : List Value) : ∀ U : State, U.heap = H → X.1.2.2.2.1.WarmedH U.vm → va_Pc av (fun U => U.heap.size = H.size ∧ vv_B Y σ U ∧ vv_Ne U ∧ va_D (fun _ => True) (vv_w Y σ)) av.toArray U :=
  fun U hU hW => ⟨rfl, by rw [hU], vv_B_of C hP hU hW, vv_Ne.warm hW C.hN, (C.hD σ).weaken (fun _ _ _ _ => trivial)⟩
theorem vv_cV (C : VC Y X own cc nL ret fr lo) (hy : vv_yok y cc2 maxL2 ret2 n) (hv : vv_vok y) (hl : Cond.methodLink own idx y ∈ lw_ok) (hR : fr2 + 1 ≤ fr ∧ 8 + (maxL2 + 11) + lo2 ≤ lo) : CallW X.1.2.2.1 X.1.2.2.2.1 X.1.2.2.2.2.2.1 own y.cls idx y cc2 maxL2 ret2 (.code y cc2 maxL2 ret2 :: lw_ok) { frames := fr2, cells := 0, slots := 0, locals := lo2 } 0 0 n :=
  ⟨vv_cwB C hy hl hR, C.hts _ hv.1, C.hts _ hv.2⟩
theorem vv_callI {post : Int32 → vv_S → Prop} (C : VC Y X own cc nL ret fr lo) (hy : vv_yok y cc2 maxL2 ret2 n) (hv : vv_vok y) (hl : Cond.methodLink own idx y ∈ lw_ok) (hk : vv_cl[ci]? = some (y.cls, T, N)) (hs : b < Y.2.2.2.2.2 ∧ vv_sh Y b = .inl (ci, fl)) (hd : decode cc pc = .ok (.invokevirtual idx, 3)) (hM : vv_MI Y y cc2 maxL2 ret2 fr2 lo2 (.ref (vv_q Y b) :: As) σ post) (hn : As.length = n) (hst : As.reverse ++ .ref (vv_q Y b) :: rest = st) (hR : fr2 + 1 ≤ fr ∧ 8 + (maxL2 + 11) + lo2 ≤ lo) (hW : (rest.map fun v => v.category).sum ≤ 8) (kk : ∀ r σ', post r σ' → VJ Y X K nL (pc + 3) L (.int r :: rest) σ') : VJ Y X K nL pc L st σ := by
  subst hst
  intro H locs ls hP hS h
  have he : (vv_w Y σ)[b]? = some (vv_q Y b, .inr (ci, vv_fs Y.2.2.2.1 (σ b) 0 fl)) := by rw [vv_W_get hs.1]; rw [show Y.2.2.2.2.1 b = .inl (ci, fl) from hs.2]; rfl
  refine va_calli (va_runV (As := As) (rest := rest) C.fix (hM H.size) (vv_cV C hy hv hl hR) ⟨vv_blind, va_recv C.hK hP hk he, vv_pre C hP _⟩ rfl hn h.1 rfl (lv_room hW) hd ⟨Nat.zero_le _, Nat.zero_le _⟩) hS (fun q _ h => vv_frees C hS q h) (vv_frees C hS) (fun r σ' t H1 locs1 ht hvm hw hB hz1 hk1 hS1 => ?_)
  exact kk r σ' hw H1 locs1 ls (by rw [← ht]; exact hB.1) hS1 h
theorem vv_callV {post : vv_S → Prop} (C : VC Y X own cc nL ret fr lo) (hy : vv_yok y cc2 maxL2 ret2 n) (hv : vv_vok y) (hl : Cond.methodLink own idx y ∈ lw_ok) (hk : vv_cl[ci]? = some (y.cls, T, N)) (hs : b < Y.2.2.2.2.2 ∧ vv_sh Y b = .inl (ci, fl)) (hd : decode cc pc = .ok (.invokevirtual idx, 3)) (hM : vv_MV Y y cc2 maxL2 ret2 fr2 lo2 (.ref (vv_q Y b) :: As) σ post) (hn : As.length = n) (hst : As.reverse ++ .ref (vv_q Y b) :: rest = st) (hR : fr2 + 1 ≤ fr ∧ 8 + (maxL2 + 11) + lo2 ≤ lo) (hW : (rest.map fun v => v.category).sum ≤ 8) (kk : ∀ σ', post σ' → VJ Y X K nL (pc + 3) L rest σ') : VJ Y X K nL pc L st σ := by
  subst hst
  intro H locs ls hP hS h
  have he : (vv_w Y σ)[b]? = some (vv_q Y b, .inr (ci, vv_fs Y.2.2.2.1 (σ b) 0 fl)) := by rw [vv_W_get hs.1]; rw [show Y.2.2.2.2.1 b = .inl (ci, fl) from hs.2]; rfl
  refine va_callv (va_runV (As := As) (rest := rest) C.fix (hM H.size) (vv_cV C hy hv hl hR) ⟨vv_blind, va_recv C.hK hP hk he, vv_pre C hP _⟩ rfl hn h.1 rfl (lv_room hW) hd ⟨Nat.zero_le _, Nat.zero_le _⟩) hS (fun q _ h => vv_frees C hS q h) (vv_frees C hS) (fun σ' t H1 locs1 ht hvm hw hB hz1 hk1 hS1 => ?_)
  exact kk σ' hw H1 locs1 ls (by rw [← ht]; exact hB.1) hS1 h
theorem vv_callR {post : vv_S → Prop} (C : VC Y X own cc nL ret fr lo) (hy : vv_yok y cc2 maxL2 ret2 n) (hv : vv_vok y) (hl : Cond.methodLink own idx y ∈ lw_ok) (hk : vv_cl[ci]? = some (y.cls, T, N)) (hs : b < Y.2.2.2.2.2 ∧ vv_sh Y b = .inl (ci, fl)) (hd : decode cc pc = .ok (.invokevirtual idx, 3)) (hM : vv_MR Y y cc2 maxL2 ret2 fr2 lo2 (.ref (vv_q Y b) :: As) σ r post) (hn : As.length = n) (hst : As.reverse ++ .ref (vv_q Y b) :: rest = st) (hR : fr2 + 1 ≤ fr ∧ 8 + (maxL2 + 11) + lo2 ≤ lo) (hW : (rest.map fun v => v.category).sum ≤ 8) (kk : ∀ σ', post σ' → VJ Y X K nL (pc + 3) L (.ref (vv_q Y r) :: rest) σ') : VJ Y X K nL pc L st σ := by
  subst hst
  intro H locs ls hP hS h
  have he : (vv_w Y σ)[b]? = some (vv_q Y b, .inr (ci, vv_fs Y.2.2.2.1 (σ b) 0 fl)) := by rw [vv_W_get hs.1]; rw [show Y.2.2.2.2.1 b = .inl (ci, fl) from hs.2]; rfl
  refine va_callr (va_runV (As := As) (rest := rest) C.fix (hM H.size) (vv_cV C hy hv hl hR) ⟨vv_blind, va_recv C.hK hP hk he, vv_pre C hP _⟩ rfl hn h.1 rfl (lv_room hW) hd ⟨Nat.zero_le _, Nat.zero_le _⟩) hS (fun q _ h => vv_frees C hS q h) (vv_frees C hS) (fun σ' ra t H1 locs1 ht hvm hw hB hz1 hk1 hS1 => ?_)
  obtain ⟨rfl, hB⟩ := hB
  exact kk σ' hw H1 locs1 ls (by rw [← ht]; exact hB.1) hS1 h
/-- a static method of the same class -/
theorem vv_callS {post : Int32 → vv_S → Prop} (C : VC Y X own cc nL ret fr lo) (hy : vv_yok y cc2 maxL2 ret2 n) (hv : Cond.static y ∈ lw_ok) (hl : Cond.methodLink own idx y ∈ lw_ok) (hd : decode cc pc = .ok (.invokestatic idx, 3)) (hM : vv_MI Y y cc2 maxL2 ret2 fr2 lo2 As σ post) (hn : As.length = n) (hst : As.reverse ++ rest = st) (hR : fr2 + 1 ≤ fr ∧ 8 + (maxL2 + 11) + lo2 ≤ lo) (hW : (rest.map fun v => v.category).sum ≤ 8) (kk : ∀ r σ', post r σ' → VJ Y X K nL (pc + 3) L (.int r :: rest) σ') : VJ Y X K nL pc L st σ := by
  subst hst
  intro H locs ls hP hS h
  refine va_calli (va_runS (As := As) (rest := rest) C.fix (hM H.size) ⟨vv_cwB C hy hl hR, C.hts _ hv⟩ ⟨vv_blind, vv_pre C hP _⟩ rfl hn h.1 rfl (lv_room hW) hd ⟨Nat.zero_le _, Nat.zero_le _⟩) hS (fun q _ h => vv_frees C hS q h) (vv_frees C hS) (fun r σ' t H1 locs1 ht hvm hw hB hz1 hk1 hS1 => ?_)
  exact kk r σ' hw H1 locs1 ls (by rw [← ht]; exact hB.1) hS1 h
theorem vv_callSv {post : vv_S → Prop} (C : VC Y X own cc nL ret fr lo) (hy : vv_yok y cc2 maxL2 ret2 n) (hv : Cond.static y ∈ lw_ok) (hl : Cond.methodLink own idx y ∈ lw_ok) (hd : decode cc pc = .ok (.invokestatic idx, 3)) (hM : vv_MV Y y cc2 maxL2 ret2 fr2 lo2 As σ post) (hn : As.length = n) (hst : As.reverse ++ rest = st) (hR : fr2 + 1 ≤ fr ∧ 8 + (maxL2 + 11) + lo2 ≤ lo) (hW : (rest.map fun v => v.category).sum ≤ 8) (kk : ∀ σ', post σ' → VJ Y X K nL (pc + 3) L rest σ') : VJ Y X K nL pc L st σ := by
  subst hst
  intro H locs ls hP hS h
  refine va_callv (va_runS (As := As) (rest := rest) C.fix (hM H.size) ⟨vv_cwB C hy hl hR, C.hts _ hv⟩ ⟨vv_blind, vv_pre C hP _⟩ rfl hn h.1 rfl (lv_room hW) hd ⟨Nat.zero_le _, Nat.zero_le _⟩) hS (fun q _ h => vv_frees C hS q h) (vv_frees C hS) (fun σ' t H1 locs1 ht hvm hw hB hz1 hk1 hS1 => ?_)
  exact kk σ' hw H1 locs1 ls (by rw [← ht]; exact hB.1) hS1 h
/-- a static method of a nest mate -/
theorem vv_callSN {post : Int32 → vv_S → Prop} {host : String} (C : VC Y X own cc nL ret fr lo) (hy : vv_yok y cc2 maxL2 ret2 n) (hv : Cond.static y ∈ lw_ok) (hl : (own, idx, y, host) ∈ vv_nest) (hd : decode cc pc = .ok (.invokestatic idx, 3)) (hM : vv_MI Y y cc2 maxL2 ret2 fr2 lo2 As σ post) (hn : As.length = n) (hst : As.reverse ++ rest = st) (hR : fr2 + 1 ≤ fr ∧ 8 + (maxL2 + 11) + lo2 ≤ lo) (hW : (rest.map fun v => v.category).sum ≤ 8) (kk : ∀ r σ', post r σ' → VJ Y X K nL (pc + 3) L (.int r :: rest) σ') : VJ Y X K nL pc L st σ := by
  subst hst
  intro H locs ls hP hS h
  refine va_calli (va_runSN (As := As) (rest := rest) C.fix (hM H.size) ⟨vv_cnB C hy hl hR, C.hts _ hv, trivial⟩ ⟨vv_blind, vv_pre C hP _⟩ rfl hn h.1 rfl (lv_room hW) hd ⟨Nat.zero_le _, Nat.zero_le _⟩) hS (fun q _ h => vv_frees C hS q h) (vv_frees C hS) (fun r σ' t H1 locs1 ht hvm hw hB hz1 hk1 hS1 => ?_)
  exact kk r σ' hw H1 locs1 ls (by rw [← ht]; exact hB.1) hS1 h
end VCA
/-- a place where ways meet: what follows is 'k' -/
def vv_jn {α : Type} (k : α) (f : α → Prop) : Prop := f k
theorem vv_join {α : Type} {k : α} {f : α → Prop} {P : Prop} (J : α → Prop) (h : vv_jn k f) (hk : J k) (body : ∀ k', J k' → f k' → P) : P := body k hk h
section VSW
variable {Y : vv_Y} {X : vv_X} {K : Array Value → State → Outcome → State → Prop} {own : String} {cc : ByteArray} {nL : Nat} {ret : Option FieldType} {fr lo pc : Nat} {L L' : List (Nat × Value)} {st : List Value} {σ : vv_S}
/-- a switch by table: to a known number's place -/
theorem vv_tab (C : VC Y X own cc nL ret fr lo) {dflt a b : Int} {offs : Array Int} {len : Nat} {x j : Int32} {off : Int} (tgt : Nat) (hd : decode cc pc = .ok (.tableswitch dflt a b offs, len)) (hx : x = j) (h1 : ¬ j.toInt < a) (h2 : ¬ b < j.toInt) (ho : offs[(j.toInt - a).toNat]? = some off) (ht : (pc : Int) + off = (tgt : Int)) (k : VJ Y X K nL tgt L st σ) : VJ Y X K nL pc L (.int x :: st) σ := by
  subst hx
  exact vv_tabIn C tgt hd h1 h2 ho ht k
/-- a switch by table: to none of the places but the default -/
theorem vv_tabD (C : VC Y X own cc nL ret fr lo) {dflt a b : Int} {offs : Array Int} {len : Nat} {x : Int32} (tgt : Nat) (hd : decode cc pc = .ok (.tableswitch dflt a b offs, len)) (hg : ∀ n : Nat, (n : Int) ≤ b - a → x.toInt = a + n → offs[n]? = some dflt) (ht : (pc : Int) + dflt = (tgt : Int)) (k : VJ Y X K nL tgt L st σ) : VJ Y X K nL pc L (.int x :: st) σ := by
  by_cases h1 : x.toInt < a
  · exact vv_tabOut C tgt hd (Or.inl h1) ht k
  · by_cases h2 : b < x.toInt
    · exact vv_tabOut C tgt hd (Or.inr h2) ht k
    · exact vv_tabIn C tgt hd h1 h2 (hg (x.toInt - a).toNat (by omega) (by omega)) ht k
theorem vv_lkp (C : VC Y X own cc nL ret fr lo) {dflt : Int} {ps : Array (Int × Int)} {len : Nat} {x j : Int32} {off : Int} (tgt : Nat) (hd : decode cc pc = .ok (.lookupswitch dflt ps, len)) (hx : x = j) (hp : (ps.toList.zip (ps.toList.drop 1)).all (fun (a, next) => a.1 < next.1) = true) (ho : Op.lookupswitch.offset ps.toList dflt j.toInt = off) (ht : (pc : Int) + off = (tgt : Int)) (k : VJ Y X K nL tgt L st σ) : VJ Y X K nL pc L (.int x :: st) σ := by
  subst hx
  exact vv_lookup C tgt hd hp ho ht k
end VSW
end
section
theorem kc_X0 : vv_Kc 0 RX0 TX0 5 := ⟨rfl, fun w h => List.mem_filter.mpr ⟨(goodIn_r wsX00 [255, 257, 259, 261, 263] (by decide +kernel) (by decide +kernel) w h).1, List.all_eq_true.mp (show wsX00.all goodWord = true by decide +kernel) w h⟩, nmX0, tyX0, tyX0_ok⟩
theorem pf_X0_4 : parseFieldDescriptor (TX0 4).2.2.1 = some .int ∧ (TX0 4).2.2.2 = false := ⟨by decide +kernel, rfl⟩
theorem kc_X1 : vv_Kc 1 RX1 TX1 8 := ⟨rfl, fun w h => List.mem_filter.mpr ⟨(goodIn_r wsX10 [117, 119, 121, 123, 125, 127, 129, 131] (by decide +kernel) (by decide +kernel) w h).1, List.all_eq_true.mp (show wsX10.all goodWord = true by decide +kernel) w h⟩, nmX1, tyX1, tyX1_ok⟩
theorem pf_X1_2 : parseFieldDescriptor (TX1 2).2.2.1 = some .int ∧ (TX1 2).2.2.2 = false := ⟨by decide +kernel, rfl⟩
theorem pf_X1_6 : parseFieldDescriptor (TX1 6).2.2.1 = some .int ∧ (TX1 6).2.2.2 = false := ⟨by decide +kernel, rfl⟩
theorem kc_X2 : vv_Kc 2 RX2 TX2 6 := ⟨rfl, fun w h => List.mem_filter.mpr ⟨(goodIn_r wsX20 [148, 150, 152, 154, 156, 158] (by decide +kernel) (by decide +kernel) w h).1, List.all_eq_true.mp (show wsX20.all goodWord = true by decide +kernel) w h⟩, nmX2, tyX2, tyX2_ok⟩
theorem pf_X2_1 : parseFieldDescriptor (TX2 1).2.2.1 = some .int ∧ (TX2 1).2.2.2 = false := ⟨by decide +kernel, rfl⟩
theorem pf_X2_4 : parseFieldDescriptor (TX2 4).2.2.1 = some .int ∧ (TX2 4).2.2.2 = false := ⟨by decide +kernel, rfl⟩
theorem kc_X3 : vv_Kc 3 RX3 TX3 16 := ⟨rfl, fun w h => List.mem_filter.mpr ⟨(goodIn_r wsX30 [211, 213, 215, 217, 219, 221, 223, 225, 227, 229, 231, 233, 235, 237, 239, 241] (by decide +kernel) (by decide +kernel) w h).1, List.all_eq_true.mp (show wsX30.all goodWord = true by decide +kernel) w h⟩, nmX3, tyX3, tyX3_ok⟩
theorem pf_X3_4 : parseFieldDescriptor (TX3 4).2.2.1 = some .int ∧ (TX3 4).2.2.2 = false := ⟨by decide +kernel, rfl⟩
theorem pf_X3_5 : parseFieldDescriptor (TX3 5).2.2.1 = some .int ∧ (TX3 5).2.2.2 = false := ⟨by decide +kernel, rfl⟩
theorem pf_X3_6 : parseFieldDescriptor (TX3 6).2.2.1 = some .int ∧ (TX3 6).2.2.2 = false := ⟨by decide +kernel, rfl⟩
theorem pf_X3_7 : parseFieldDescriptor (TX3 7).2.2.1 = some .int ∧ (TX3 7).2.2.2 = false := ⟨by decide +kernel, rfl⟩
theorem pf_X3_8 : parseFieldDescriptor (TX3 8).2.2.1 = some .int ∧ (TX3 8).2.2.2 = false := ⟨by decide +kernel, rfl⟩
theorem pf_X3_9 : parseFieldDescriptor (TX3 9).2.2.1 = some .int ∧ (TX3 9).2.2.2 = false := ⟨by decide +kernel, rfl⟩
theorem pf_X3_10 : parseFieldDescriptor (TX3 10).2.2.1 = some .int ∧ (TX3 10).2.2.2 = false := ⟨by decide +kernel, rfl⟩
theorem pf_X3_11 : parseFieldDescriptor (TX3 11).2.2.1 = some .int ∧ (TX3 11).2.2.2 = false := ⟨by decide +kernel, rfl⟩
theorem pf_X3_12 : parseFieldDescriptor (TX3 12).2.2.1 = some .int ∧ (TX3 12).2.2.2 = false := ⟨by decide +kernel, rfl⟩
theorem pf_X3_13 : parseFieldDescriptor (TX3 13).2.2.1 = some .int ∧ (TX3 13).2.2.2 = false := ⟨by decide +kernel, rfl⟩
theorem pf_X3_14 : parseFieldDescriptor (TX3 14).2.2.1 = some .int ∧ (TX3 14).2.2.2 = false := ⟨by decide +kernel, rfl⟩
theorem pf_X3_15 : parseFieldDescriptor (TX3 15).2.2.1 = some .int ∧ (TX3 15).2.2.2 = false := ⟨by decide +kernel, rfl⟩
theorem kc_X4 : vv_Kc 4 RX4 TX4 9 := ⟨rfl, fun w h => List.mem_filter.mpr ⟨(goodIn_r wsX40 [170, 172, 174, 176, 178, 180, 182, 184, 186] (by decide +kernel) (by decide +kernel) w h).1, List.all_eq_true.mp (show wsX40.all goodWord = true by decide +kernel) w h⟩, nmX4, tyX4, tyX4_ok⟩
theorem pf_X4_2 : parseFieldDescriptor (TX4 2).2.2.1 = some .int ∧ (TX4 2).2.2.2 = false := ⟨by decide +kernel, rfl⟩
theorem pf_X4_3 : parseFieldDescriptor (TX4 3).2.2.1 = some .int ∧ (TX4 3).2.2.2 = false := ⟨by decide +kernel, rfl⟩
theorem pf_X4_4 : parseFieldDescriptor (TX4 4).2.2.1 = some .int ∧ (TX4 4).2.2.2 = false := ⟨by decide +kernel, rfl⟩
theorem pf_X4_5 : parseFieldDescriptor (TX4 5).2.2.1 = some .int ∧ (TX4 5).2.2.2 = false := ⟨by decide +kernel, rfl⟩
theorem pf_X4_6 : parseFieldDescriptor (TX4 6).2.2.1 = some .int ∧ (TX4 6).2.2.2 = false := ⟨by decide +kernel, rfl⟩
theorem kc_X5 : vv_Kc 5 RX5 TX5 2 := ⟨rfl, fun w h => List.mem_filter.mpr ⟨(goodIn_r wsX50 [291, 293] (by decide +kernel) (by decide +kernel) w h).1, List.all_eq_true.mp (show wsX50.all goodWord = true by decide +kernel) w h⟩, nmX5, tyX5, tyX5_ok⟩
theorem pf_X5_1 : parseFieldDescriptor (TX5 1).2.2.1 = some .int ∧ (TX5 1).2.2.2 = false := ⟨by decide +kernel, rfl⟩
theorem kc_X6 : vv_Kc 6 RX6 TX6 3 := ⟨rfl, fun w h => List.mem_filter.mpr ⟨(goodIn_r wsX60 [276, 278, 280] (by decide +kernel) (by decide +kernel) w h).1, List.all_eq_true.mp (show wsX60.all goodWord = true by decide +kernel) w h⟩, nmX6, tyX6, tyX6_ok⟩
theorem pf_X6_2 : parseFieldDescriptor (TX6 2).2.2.1 = some .int ∧ (TX6 2).2.2.2 = false := ⟨by decide +kernel, rfl⟩
theorem kc_X7 : vv_Kc 7 RX7 TX7 4 := ⟨rfl, fun w h => List.mem_filter.mpr ⟨(goodIn_r wsX70 [87, 89, 91, 93] (by decide +kernel) (by decide +kernel) w h).1, List.all_eq_true.mp (show wsX70.all goodWord = true by decide +kernel) w h⟩, nmX7, tyX7, tyX7_ok⟩
theorem pf_X7_1 : parseFieldDescriptor (TX7 1).2.2.1 = some .int ∧ (TX7 1).2.2.2 = false := ⟨by decide +kernel, rfl⟩
theorem pf_X7_3 : parseFieldDescriptor (TX7 3).2.2.1 = some .int ∧ (TX7 3).2.2.2 = false := ⟨by decide +kernel, rfl⟩
theorem kc_X8 : vv_Kc 8 RX8 TX8 11 := ⟨rfl, fun w h => List.mem_filter.mpr ⟨(goodIn_r wsX80 [498, 500, 502, 504, 506, 508, 510, 512, 514, 516, 518] (by decide +kernel) (by decide +kernel) w h).1, List.all_eq_true.mp (show wsX80.all goodWord = true by decide +kernel) w h⟩, nmX8, tyX8, tyX8_ok⟩
theorem pf_X8_7 : parseFieldDescriptor (TX8 7).2.2.1 = some .int ∧ (TX8 7).2.2.2 = false := ⟨by decide +kernel, rfl⟩
theorem kc_X9 : vv_Kc 9 RX9 TX9 48 := ⟨rfl, fun w h => List.mem_filter.mpr ⟨(goodIn_r wsX90 [1032, 1034, 1036, 1038, 1040, 1042, 1044, 1046, 1048, 1050, 1052, 1054, 1056, 1058, 1060, 1062, 1064, 1066, 1068, 1070, 1072, 1074, 1076, 1078, 1080, 1082, 1084, 1086, 1088, 1090, 1092, 1094, 1096, 1098, 1100, 1102, 1104, 1106, 1108, 1110, 1112, 1114, 1116, 1118, 1120, 1122, 1124, 1126] (by decide +kernel) (by decide +kernel) w h).1, List.all_eq_true.mp (show wsX90.all goodWord = true by decide +kernel) w h⟩, nmX9, tyX9, tyX9_ok⟩
theorem pf_X9_0 : parseFieldDescriptor (TX9 0).2.2.1 = some .int ∧ (TX9 0).2.2.2 = false := ⟨by decide +kernel, rfl⟩
theorem pf_X9_25 : parseFieldDescriptor (TX9 25).2.2.1 = some .int ∧ (TX9 25).2.2.2 = false := ⟨by decide +kernel, rfl⟩
theorem pf_X9_26 : parseFieldDescriptor (TX9 26).2.2.1 = some .int ∧ (TX9 26).2.2.2 = false := ⟨by decide +kernel, rfl⟩
theorem pf_X9_29 : parseFieldDescriptor (TX9 29).2.2.1 = some .int ∧ (TX9 29).2.2.2 = false := ⟨by decide +kernel, rfl⟩
theorem pf_X9_38 : parseFieldDescriptor (TX9 38).2.2.1 = some .int ∧ (TX9 38).2.2.2 = false := ⟨by decide +kernel, rfl⟩
theorem pf_X9_39 : parseFieldDescriptor (TX9 39).2.2.1 = some .int ∧ (TX9 39).2.2.2 = false := ⟨by decide +kernel, rfl⟩
theorem pf_X9_40 : parseFieldDescriptor (TX9 40).2.2.1 = some .int ∧ (TX9 40).2.2.2 = false := ⟨by decide +kernel, rfl⟩
theorem pf_X9_41 : parseFieldDescriptor (TX9 41).2.2.1 = some .int ∧ (TX9 41).2.2.2 = false := ⟨by decide +kernel, rfl⟩
theorem pf_X9_47 : parseFieldDescriptor (TX9 47).2.2.1 = some .int ∧ (TX9 47).2.2.2 = false := ⟨by decide +kernel, rfl⟩
theorem fk_X0_9 : Cond.fieldLink RX0 9 (TX0 0).1 (TX0 0).2.1 (TX0 0).2.2.1 ∈ lw_ok := lw_ok_in (lw_g1 (List.mem_of_getElem? (i := 197) rfl)) rfl
theorem fk_X0_15 : Cond.fieldLink RX0 15 (TX0 1).1 (TX0 1).2.1 (TX0 1).2.2.1 ∈ lw_ok := lw_ok_in (lw_g1 (List.mem_of_getElem? (i := 198) rfl)) rfl
theorem fk_X0_18 : Cond.fieldLink RX0 18 (TX0 2).1 (TX0 2).2.1 (TX0 2).2.2.1 ∈ lw_ok := lw_ok_in (lw_g1 (List.mem_of_getElem? (i := 199) rfl)) rfl
theorem fk_X0_21 : Cond.fieldLink RX0 21 (TX0 3).1 (TX0 3).2.1 (TX0 3).2.2.1 ∈ lw_ok := lw_ok_in (lw_g1 (List.mem_of_getElem? (i := 200) rfl)) rfl
theorem fk_X0_24 : Cond.fieldLink RX0 24 (TX0 4).1 (TX0 4).2.1 (TX0 4).2.2.1 ∈ lw_ok := lw_ok_in (lw_g1 (List.mem_of_getElem? (i := 201) rfl)) rfl
theorem fk_X1_9 : Cond.fieldLink RX1 9 (TX1 0).1 (TX1 0).2.1 (TX1 0).2.2.1 ∈ lw_ok := lw_ok_in (lw_g1 (List.mem_of_getElem? (i := 56) rfl)) rfl
theorem fk_X1_15 : Cond.fieldLink RX1 15 (TX1 1).1 (TX1 1).2.1 (TX1 1).2.2.1 ∈ lw_ok := lw_ok_in (lw_g1 (List.mem_of_getElem? (i := 57) rfl)) rfl
theorem fk_X1_18 : Cond.fieldLink RX1 18 (TX1 3).1 (TX1 3).2.1 (TX1 3).2.2.1 ∈ lw_ok := lw_ok_in (lw_g1 (List.mem_of_getElem? (i := 59) rfl)) rfl
theorem fk_X1_21 : Cond.fieldLink RX1 21 (TX1 4).1 (TX1 4).2.1 (TX1 4).2.2.1 ∈ lw_ok := lw_ok_in (lw_g1 (List.mem_of_getElem? (i := 60) rfl)) rfl
theorem fk_X1_24 : Cond.fieldLink RX1 24 (TX1 5).1 (TX1 5).2.1 (TX1 5).2.2.1 ∈ lw_ok := lw_ok_in (lw_g1 (List.mem_of_getElem? (i := 61) rfl)) rfl
theorem fk_X1_27 : Cond.fieldLink RX1 27 (TX1 7).1 (TX1 7).2.1 (TX1 7).2.2.1 ∈ lw_ok := lw_ok_in (lw_g1 (List.mem_of_getElem? (i := 63) rfl)) rfl
theorem fk_X1_30 : Cond.fieldLink RX1 30 (TX1 2).1 (TX1 2).2.1 (TX1 2).2.2.1 ∈ lw_ok := lw_ok_in (lw_g1 (List.mem_of_getElem? (i := 58) rfl)) rfl
theorem fk_X1_34 : Cond.fieldLink RX1 34 (TX1 6).1 (TX1 6).2.1 (TX1 6).2.2.1 ∈ lw_ok := lw_ok_in (lw_g1 (List.mem_of_getElem? (i := 62) rfl)) rfl
theorem fk_X2_11 : Cond.fieldLink RX2 11 (TX2 0).1 (TX2 0).2.1 (TX2 0).2.2.1 ∈ lw_ok := lw_ok_in (lw_g1 (List.mem_of_getElem? (i := 89) rfl)) rfl
theorem fk_X2_16 : Cond.fieldLink RX2 16 (TX2 2).1 (TX2 2).2.1 (TX2 2).2.2.1 ∈ lw_ok := lw_ok_in (lw_g1 (List.mem_of_getElem? (i := 91) rfl)) rfl
theorem fk_X2_20 : Cond.fieldLink RX2 20 (TX2 3).1 (TX2 3).2.1 (TX2 3).2.2.1 ∈ lw_ok := lw_ok_in (lw_g1 (List.mem_of_getElem? (i := 92) rfl)) rfl
theorem fk_X2_23 : Cond.fieldLink RX2 23 (TX2 5).1 (TX2 5).2.1 (TX2 5).2.2.1 ∈ lw_ok := lw_ok_in (lw_g1 (List.mem_of_getElem? (i := 94) rfl)) rfl
theorem fk_X2_26 : Cond.fieldLink RX2 26 (TX2 1).1 (TX2 1).2.1 (TX2 1).2.2.1 ∈ lw_ok := lw_ok_in (lw_g1 (List.mem_of_getElem? (i := 90) rfl)) rfl
theorem fk_X2_30 : Cond.fieldLink RX2 30 (TX2 4).1 (TX2 4).2.1 (TX2 4).2.2.1 ∈ lw_ok := lw_ok_in (lw_g1 (List.mem_of_getElem? (i := 93) rfl)) rfl
theorem fk_X3_9 : Cond.fieldLink RX3 9 (TX3 1).1 (TX3 1).2.1 (TX3 1).2.2.1 ∈ lw_ok := lw_ok_in (lw_g1 (List.mem_of_getElem? (i := 143) rfl)) rfl
theorem fk_X3_15 : Cond.fieldLink RX3 15 (TX3 2).1 (TX3 2).2.1 (TX3 2).2.2.1 ∈ lw_ok := lw_ok_in (lw_g1 (List.mem_of_getElem? (i := 144) rfl)) rfl
theorem fk_X3_18 : Cond.fieldLink RX3 18 (TX3 3).1 (TX3 3).2.1 (TX3 3).2.2.1 ∈ lw_ok := lw_ok_in (lw_g1 (List.mem_of_getElem? (i := 145) rfl)) rfl
theorem fk_X3_21 : Cond.fieldLink RX3 21 (TX3 0).1 (TX3 0).2.1 (TX3 0).2.2.1 ∈ lw_ok := lw_ok_in (lw_g1 (List.mem_of_getElem? (i := 142) rfl)) rfl
theorem fk_X3_34 : Cond.fieldLink RX3 34 (TX3 4).1 (TX3 4).2.1 (TX3 4).2.2.1 ∈ lw_ok := lw_ok_in (lw_g1 (List.mem_of_getElem? (i := 146) rfl)) rfl
theorem fk_X3_38 : Cond.fieldLink RX3 38 (TX3 5).1 (TX3 5).2.1 (TX3 5).2.2.1 ∈ lw_ok := lw_ok_in (lw_g1 (List.mem_of_getElem? (i := 147) rfl)) rfl
theorem fk_X3_41 : Cond.fieldLink RX3 41 (TX3 6).1 (TX3 6).2.1 (TX3 6).2.2.1 ∈ lw_ok := lw_ok_in (lw_g1 (List.mem_of_getElem? (i := 148) rfl)) rfl
theorem fk_X3_44 : Cond.fieldLink RX3 44 (TX3 7).1 (TX3 7).2.1 (TX3 7).2.2.1 ∈ lw_ok := lw_ok_in (lw_g1 (List.mem_of_getElem? (i := 149) rfl)) rfl
theorem fk_X3_63 : Cond.fieldLink RX3 63 (TX3 8).1 (TX3 8).2.1 (TX3 8).2.2.1 ∈ lw_ok := lw_ok_in (lw_g1 (List.mem_of_getElem? (i := 150) rfl)) rfl
theorem fk_X3_66 : Cond.fieldLink RX3 66 (TX3 9).1 (TX3 9).2.1 (TX3 9).2.2.1 ∈ lw_ok := lw_ok_in (lw_g1 (List.mem_of_getElem? (i := 151) rfl)) rfl
theorem fk_X3_69 : Cond.fieldLink RX3 69 (TX3 11).1 (TX3 11).2.1 (TX3 11).2.2.1 ∈ lw_ok := lw_ok_in (lw_g1 (List.mem_of_getElem? (i := 153) rfl)) rfl
theorem fk_X3_72 : Cond.fieldLink RX3 72 (TX3 12).1 (TX3 12).2.1 (TX3 12).2.2.1 ∈ lw_ok := lw_ok_in (lw_g1 (List.mem_of_getElem? (i := 154) rfl)) rfl
theorem fk_X3_81 : Cond.fieldLink RX3 81 (TX3 10).1 (TX3 10).2.1 (TX3 10).2.2.1 ∈ lw_ok := lw_ok_in (lw_g1 (List.mem_of_getElem? (i := 152) rfl)) rfl
theorem fk_X3_99 : Cond.fieldLink RX3 99 (TX3 13).1 (TX3 13).2.1 (TX3 13).2.2.1 ∈ lw_ok := lw_ok_in (lw_g1 (List.mem_of_getElem? (i := 155) rfl)) rfl
theorem fk_X3_102 : Cond.fieldLink RX3 102 (TX3 14).1 (TX3 14).2.1 (TX3 14).2.2.1 ∈ lw_ok := lw_ok_in (lw_g1 (List.mem_of_getElem? (i := 156) rfl)) rfl
theorem fk_X3_105 : Cond.fieldLink RX3 105 (TX3 15).1 (TX3 15).2.1 (TX3 15).2.2.1 ∈ lw_ok := lw_ok_in (lw_g1 (List.mem_of_getElem? (i := 157) rfl)) rfl
theorem fk_X4_9 : Cond.fieldLink RX4 9 (TX4 0).1 (TX4 0).2.1 (TX4 0).2.2.1 ∈ lw_ok := lw_ok_in (lw_g1 (List.mem_of_getElem? (i := 108) rfl)) rfl
theorem fk_X4_15 : Cond.fieldLink RX4 15 (TX4 1).1 (TX4 1).2.1 (TX4 1).2.2.1 ∈ lw_ok := lw_ok_in (lw_g1 (List.mem_of_getElem? (i := 109) rfl)) rfl
theorem fk_X4_21 : Cond.fieldLink RX4 21 (TX4 7).1 (TX4 7).2.1 (TX4 7).2.2.1 ∈ lw_ok := lw_ok_in (lw_g1 (List.mem_of_getElem? (i := 115) rfl)) rfl
theorem fk_X4_28 : Cond.fieldLink RX4 28 (TX4 8).1 (TX4 8).2.1 (TX4 8).2.2.1 ∈ lw_ok := lw_ok_in (lw_g1 (List.mem_of_getElem? (i := 116) rfl)) rfl
theorem fk_X4_55 : Cond.fieldLink RX4 55 (TX4 2).1 (TX4 2).2.1 (TX4 2).2.2.1 ∈ lw_ok := lw_ok_in (lw_g1 (List.mem_of_getElem? (i := 110) rfl)) rfl
theorem fk_X4_59 : Cond.fieldLink RX4 59 (TX4 3).1 (TX4 3).2.1 (TX4 3).2.2.1 ∈ lw_ok := lw_ok_in (lw_g1 (List.mem_of_getElem? (i := 111) rfl)) rfl
theorem fk_X4_62 : Cond.fieldLink RX4 62 (TX4 4).1 (TX4 4).2.1 (TX4 4).2.2.1 ∈ lw_ok := lw_ok_in (lw_g1 (List.mem_of_getElem? (i := 112) rfl)) rfl
theorem fk_X4_65 : Cond.fieldLink RX4 65 (TX4 5).1 (TX4 5).2.1 (TX4 5).2.2.1 ∈ lw_ok := lw_ok_in (lw_g1 (List.mem_of_getElem? (i := 113) rfl)) rfl
theorem fk_X4_68 : Cond.fieldLink RX4 68 (TX4 6).1 (TX4 6).2.1 (TX4 6).2.2.1 ∈ lw_ok := lw_ok_in (lw_g1 (List.mem_of_getElem? (i := 114) rfl)) rfl
theorem fk_X5_9 : Cond.fieldLink RX5 9 (TX5 0).1 (TX5 0).2.1 (TX5 0).2.2.1 ∈ lw_ok := lw_ok_in (lw_g1 (List.mem_of_getElem? (i := 236) rfl)) rfl
theorem fk_X5_21 : Cond.fieldLink RX5 21 (TX5 1).1 (TX5 1).2.1 (TX5 1).2.2.1 ∈ lw_ok := lw_ok_in (lw_g1 (List.mem_of_getElem? (i := 237) rfl)) rfl
theorem fk_X6_9 : Cond.fieldLink RX6 9 (TX6 0).1 (TX6 0).2.1 (TX6 0).2.2.1 ∈ lw_ok := lw_ok_in (lw_g1 (List.mem_of_getElem? (i := 220) rfl)) rfl
theorem fk_X6_15 : Cond.fieldLink RX6 15 (TX6 1).1 (TX6 1).2.1 (TX6 1).2.2.1 ∈ lw_ok := lw_ok_in (lw_g1 (List.mem_of_getElem? (i := 221) rfl)) rfl
theorem fk_X6_18 : Cond.fieldLink RX6 18 (TX6 2).1 (TX6 2).2.1 (TX6 2).2.2.1 ∈ lw_ok := lw_ok_in (lw_g1 (List.mem_of_getElem? (i := 222) rfl)) rfl
theorem fk_X7_9 : Cond.fieldLink RX7 9 (TX7 0).1 (TX7 0).2.1 (TX7 0).2.2.1 ∈ lw_ok := lw_ok_in (lw_g1 (List.mem_of_getElem? (i := 30) rfl)) rfl
theorem fk_X7_15 : Cond.fieldLink RX7 15 (TX7 2).1 (TX7 2).2.1 (TX7 2).2.2.1 ∈ lw_ok := lw_ok_in (lw_g1 (List.mem_of_getElem? (i := 32) rfl)) rfl
theorem fk_X7_18 : Cond.fieldLink RX7 18 (TX7 1).1 (TX7 1).2.1 (TX7 1).2.2.1 ∈ lw_ok := lw_ok_in (lw_g1 (List.mem_of_getElem? (i := 31) rfl)) rfl
theorem fk_X7_22 : Cond.fieldLink RX7 22 (TX7 3).1 (TX7 3).2.1 (TX7 3).2.2.1 ∈ lw_ok := lw_ok_in (lw_g1 (List.mem_of_getElem? (i := 33) rfl)) rfl
theorem fk_X8_10 : Cond.fieldLink RX8 10 (TX8 0).1 (TX8 0).2.1 (TX8 0).2.2.1 ∈ lw_ok := lw_ok_in (lw_g2 (List.mem_of_getElem? (i := 194) rfl)) rfl
theorem fk_X8_19 : Cond.fieldLink RX8 19 (TX8 1).1 (TX8 1).2.1 (TX8 1).2.2.1 ∈ lw_ok := lw_ok_in (lw_g2 (List.mem_of_getElem? (i := 195) rfl)) rfl
theorem fk_X8_23 : Cond.fieldLink RX8 23 (TX8 2).1 (TX8 2).2.1 (TX8 2).2.2.1 ∈ lw_ok := lw_ok_in (lw_g2 (List.mem_of_getElem? (i := 196) rfl)) rfl
theorem fk_X8_31 : Cond.fieldLink RX8 31 (TX8 3).1 (TX8 3).2.1 (TX8 3).2.2.1 ∈ lw_ok := lw_ok_in (lw_g2 (List.mem_of_getElem? (i := 197) rfl)) rfl
theorem fk_X8_35 : Cond.fieldLink RX8 35 (TX8 4).1 (TX8 4).2.1 (TX8 4).2.2.1 ∈ lw_ok := lw_ok_in (lw_g2 (List.mem_of_getElem? (i := 198) rfl)) rfl
theorem fk_X8_41 : Cond.fieldLink RX8 41 (TX8 5).1 (TX8 5).2.1 (TX8 5).2.2.1 ∈ lw_ok := lw_ok_in (lw_g2 (List.mem_of_getElem? (i := 199) rfl)) rfl
theorem fk_X8_45 : Cond.fieldLink RX8 45 (TX8 6).1 (TX8 6).2.1 (TX8 6).2.2.1 ∈ lw_ok := lw_ok_in (lw_g2 (List.mem_of_getElem? (i := 200) rfl)) rfl
theorem fk_X8_52 : Cond.fieldLink RX8 52 (TX8 8).1 (TX8 8).2.1 (TX8 8).2.2.1 ∈ lw_ok := lw_ok_in (lw_g2 (List.mem_of_getElem? (i := 202) rfl)) rfl
theorem fk_X8_59 : Cond.fieldLink RX8 59 (TX8 9).1 (TX8 9).2.1 (TX8 9).2.2.1 ∈ lw_ok := lw_ok_in (lw_g2 (List.mem_of_getElem? (i := 203) rfl)) rfl
theorem fk_X8_63 : Cond.fieldLink RX8 63 (TX8 10).1 (TX8 10).2.1 (TX8 10).2.2.1 ∈ lw_ok := lw_ok_in (lw_g2 (List.mem_of_getElem? (i := 204) rfl)) rfl
theorem fk_X8_103 : Cond.fieldLink RX8 103 (TX8 7).1 (TX8 7).2.1 (TX8 7).2.2.1 ∈ lw_ok := lw_ok_in (lw_g2 (List.mem_of_getElem? (i := 201) rfl)) rfl
theorem fk_X9_7 : Cond.fieldLink RX9 7 (TX9 1).1 (TX9 1).2.1 (TX9 1).2.2.1 ∈ lw_ok := lw_ok_in (lw_g4 (List.mem_of_getElem? (i := 212) rfl)) rfl
theorem fk_X9_13 : Cond.fieldLink RX9 13 (TX9 2).1 (TX9 2).2.1 (TX9 2).2.2.1 ∈ lw_ok := lw_ok_in (lw_g4 (List.mem_of_getElem? (i := 213) rfl)) rfl
theorem fk_X9_16 : Cond.fieldLink RX9 16 (TX9 3).1 (TX9 3).2.1 (TX9 3).2.2.1 ∈ lw_ok := lw_ok_in (lw_g4 (List.mem_of_getElem? (i := 214) rfl)) rfl
theorem fk_X9_19 : Cond.fieldLink RX9 19 (TX9 4).1 (TX9 4).2.1 (TX9 4).2.2.1 ∈ lw_ok := lw_ok_in (lw_g4 (List.mem_of_getElem? (i := 215) rfl)) rfl
theorem fk_X9_22 : Cond.fieldLink RX9 22 (TX9 5).1 (TX9 5).2.1 (TX9 5).2.2.1 ∈ lw_ok := lw_ok_in (lw_g4 (List.mem_of_getElem? (i := 216) rfl)) rfl
theorem fk_X9_25 : Cond.fieldLink RX9 25 (TX9 6).1 (TX9 6).2.1 (TX9 6).2.2.1 ∈ lw_ok := lw_ok_in (lw_g4 (List.mem_of_getElem? (i := 217) rfl)) rfl
theorem fk_X9_28 : Cond.fieldLink RX9 28 (TX9 7).1 (TX9 7).2.1 (TX9 7).2.2.1 ∈ lw_ok := lw_ok_in (lw_g4 (List.mem_of_getElem? (i := 218) rfl)) rfl
theorem fk_X9_31 : Cond.fieldLink RX9 31 (TX9 8).1 (TX9 8).2.1 (TX9 8).2.2.1 ∈ lw_ok := lw_ok_in (lw_g4 (List.mem_of_getElem? (i := 219) rfl)) rfl
theorem fk_X9_34 : Cond.fieldLink RX9 34 (TX9 9).1 (TX9 9).2.1 (TX9 9).2.2.1 ∈ lw_ok := lw_ok_in (lw_g4 (List.mem_of_getElem? (i := 220) rfl)) rfl
theorem fk_X9_37 : Cond.fieldLink RX9 37 (TX9 10).1 (TX9 10).2.1 (TX9 10).2.2.1 ∈ lw_ok := lw_ok_in (lw_g4 (List.mem_of_getElem? (i := 221) rfl)) rfl
theorem fk_X9_40 : Cond.fieldLink RX9 40 (TX9 11).1 (TX9 11).2.1 (TX9 11).2.2.1 ∈ lw_ok := lw_ok_in (lw_g4 (List.mem_of_getElem? (i := 222) rfl)) rfl
theorem fk_X9_43 : Cond.fieldLink RX9 43 (TX9 12).1 (TX9 12).2.1 (TX9 12).2.2.1 ∈ lw_ok := lw_ok_in (lw_g4 (List.mem_of_getElem? (i := 223) rfl)) rfl
theorem fk_X9_46 : Cond.fieldLink RX9 46 (TX9 13).1 (TX9 13).2.1 (TX9 13).2.2.1 ∈ lw_ok := lw_ok_in (lw_g4 (List.mem_of_getElem? (i := 224) rfl)) rfl
theorem fk_X9_49 : Cond.fieldLink RX9 49 (TX9 14).1 (TX9 14).2.1 (TX9 14).2.2.1 ∈ lw_ok := lw_ok_in (lw_g4 (List.mem_of_getElem? (i := 225) rfl)) rfl
theorem fk_X9_52 : Cond.fieldLink RX9 52 (TX9 15).1 (TX9 15).2.1 (TX9 15).2.2.1 ∈ lw_ok := lw_ok_in (lw_g4 (List.mem_of_getElem? (i := 226) rfl)) rfl
theorem fk_X9_55 : Cond.fieldLink RX9 55 (TX9 16).1 (TX9 16).2.1 (TX9 16).2.2.1 ∈ lw_ok := lw_ok_in (lw_g4 (List.mem_of_getElem? (i := 227) rfl)) rfl
theorem fk_X9_58 : Cond.fieldLink RX9 58 (TX9 17).1 (TX9 17).2.1 (TX9 17).2.2.1 ∈ lw_ok := lw_ok_in (lw_g4 (List.mem_of_getElem? (i := 228) rfl)) rfl
theorem fk_X9_61 : Cond.fieldLink RX9 61 (TX9 18).1 (TX9 18).2.1 (TX9 18).2.2.1 ∈ lw_ok := lw_ok_in (lw_g4 (List.mem_of_getElem? (i := 229) rfl)) rfl
theorem fk_X9_64 : Cond.fieldLink RX9 64 (TX9 19).1 (TX9 19).2.1 (TX9 19).2.2.1 ∈ lw_ok := lw_ok_in (lw_g4 (List.mem_of_getElem? (i := 230) rfl)) rfl
theorem fk_X9_67 : Cond.fieldLink RX9 67 (TX9 20).1 (TX9 20).2.1 (TX9 20).2.2.1 ∈ lw_ok := lw_ok_in (lw_g4 (List.mem_of_getElem? (i := 231) rfl)) rfl
theorem fk_X9_70 : Cond.fieldLink RX9 70 (TX9 21).1 (TX9 21).2.1 (TX9 21).2.2.1 ∈ lw_ok := lw_ok_in (lw_g4 (List.mem_of_getElem? (i := 232) rfl)) rfl
theorem fk_X9_73 : Cond.fieldLink RX9 73 (TX9 22).1 (TX9 22).2.1 (TX9 22).2.2.1 ∈ lw_ok := lw_ok_in (lw_g4 (List.mem_of_getElem? (i := 233) rfl)) rfl
theorem fk_X9_76 : Cond.fieldLink RX9 76 (TX9 23).1 (TX9 23).2.1 (TX9 23).2.2.1 ∈ lw_ok := lw_ok_in (lw_g4 (List.mem_of_getElem? (i := 234) rfl)) rfl
theorem fk_X9_79 : Cond.fieldLink RX9 79 (TX9 24).1 (TX9 24).2.1 (TX9 24).2.2.1 ∈ lw_ok := lw_ok_in (lw_g4 (List.mem_of_getElem? (i := 235) rfl)) rfl
theorem fk_X9_82 : Cond.fieldLink RX9 82 (TX9 27).1 (TX9 27).2.1 (TX9 27).2.2.1 ∈ lw_ok := lw_ok_in (lw_g4 (List.mem_of_getElem? (i := 238) rfl)) rfl
theorem fk_X9_85 : Cond.fieldLink RX9 85 (TX9 28).1 (TX9 28).2.1 (TX9 28).2.2.1 ∈ lw_ok := lw_ok_in (lw_g4 (List.mem_of_getElem? (i := 239) rfl)) rfl
theorem fk_X9_88 : Cond.fieldLink RX9 88 (TX9 30).1 (TX9 30).2.1 (TX9 30).2.2.1 ∈ lw_ok := lw_ok_in (lw_g5 (List.mem_of_getElem? (i := 1) rfl)) rfl
theorem fk_X9_91 : Cond.fieldLink RX9 91 (TX9 31).1 (TX9 31).2.1 (TX9 31).2.2.1 ∈ lw_ok := lw_ok_in (lw_g5 (List.mem_of_getElem? (i := 2) rfl)) rfl
theorem fk_X9_94 : Cond.fieldLink RX9 94 (TX9 32).1 (TX9 32).2.1 (TX9 32).2.2.1 ∈ lw_ok := lw_ok_in (lw_g5 (List.mem_of_getElem? (i := 3) rfl)) rfl
theorem fk_X9_97 : Cond.fieldLink RX9 97 (TX9 33).1 (TX9 33).2.1 (TX9 33).2.2.1 ∈ lw_ok := lw_ok_in (lw_g5 (List.mem_of_getElem? (i := 4) rfl)) rfl
theorem fk_X9_100 : Cond.fieldLink RX9 100 (TX9 34).1 (TX9 34).2.1 (TX9 34).2.2.1 ∈ lw_ok := lw_ok_in (lw_g5 (List.mem_of_getElem? (i := 5) rfl)) rfl
theorem fk_X9_103 : Cond.fieldLink RX9 103 (TX9 35).1 (TX9 35).2.1 (TX9 35).2.2.1 ∈ lw_ok := lw_ok_in (lw_g5 (List.mem_of_getElem? (i := 6) rfl)) rfl
theorem fk_X9_106 : Cond.fieldLink RX9 106 (TX9 36).1 (TX9 36).2.1 (TX9 36).2.2.1 ∈ lw_ok := lw_ok_in (lw_g5 (List.mem_of_getElem? (i := 7) rfl)) rfl
theorem fk_X9_109 : Cond.fieldLink RX9 109 (TX9 37).1 (TX9 37).2.1 (TX9 37).2.2.1 ∈ lw_ok := lw_ok_in (lw_g5 (List.mem_of_getElem? (i := 8) rfl)) rfl
theorem fk_X9_112 : Cond.fieldLink RX9 112 (TX9 42).1 (TX9 42).2.1 (TX9 42).2.2.1 ∈ lw_ok := lw_ok_in (lw_g5 (List.mem_of_getElem? (i := 13) rfl)) rfl
theorem fk_X9_115 : Cond.fieldLink RX9 115 (TX9 43).1 (TX9 43).2.1 (TX9 43).2.2.1 ∈ lw_ok := lw_ok_in (lw_g5 (List.mem_of_getElem? (i := 14) rfl)) rfl
theorem fk_X9_118 : Cond.fieldLink RX9 118 (TX9 44).1 (TX9 44).2.1 (TX9 44).2.2.1 ∈ lw_ok := lw_ok_in (lw_g5 (List.mem_of_getElem? (i := 15) rfl)) rfl
theorem fk_X9_121 : Cond.fieldLink RX9 121 (TX9 45).1 (TX9 45).2.1 (TX9 45).2.2.1 ∈ lw_ok := lw_ok_in (lw_g5 (List.mem_of_getElem? (i := 16) rfl)) rfl
theorem fk_X9_124 : Cond.fieldLink RX9 124 (TX9 46).1 (TX9 46).2.1 (TX9 46).2.2.1 ∈ lw_ok := lw_ok_in (lw_g5 (List.mem_of_getElem? (i := 17) rfl)) rfl
theorem fk_X9_142 : Cond.fieldLink RX9 142 (TX9 0).1 (TX9 0).2.1 (TX9 0).2.2.1 ∈ lw_ok := lw_ok_in (lw_g4 (List.mem_of_getElem? (i := 211) rfl)) rfl
theorem fk_X9_146 : Cond.fieldLink RX9 146 (TX9 29).1 (TX9 29).2.1 (TX9 29).2.2.1 ∈ lw_ok := lw_ok_in (lw_g5 (List.mem_of_getElem? (i := 0) rfl)) rfl
theorem fk_X9_190 : Cond.fieldLink RX9 190 (TX9 25).1 (TX9 25).2.1 (TX9 25).2.2.1 ∈ lw_ok := lw_ok_in (lw_g4 (List.mem_of_getElem? (i := 236) rfl)) rfl
theorem fk_X9_193 : Cond.fieldLink RX9 193 (TX9 26).1 (TX9 26).2.1 (TX9 26).2.2.1 ∈ lw_ok := lw_ok_in (lw_g4 (List.mem_of_getElem? (i := 237) rfl)) rfl
theorem fk_X9_202 : Cond.fieldLink RX9 202 (TX9 40).1 (TX9 40).2.1 (TX9 40).2.2.1 ∈ lw_ok := lw_ok_in (lw_g5 (List.mem_of_getElem? (i := 11) rfl)) rfl
theorem fk_X9_211 : Cond.fieldLink RX9 211 (TX9 38).1 (TX9 38).2.1 (TX9 38).2.2.1 ∈ lw_ok := lw_ok_in (lw_g5 (List.mem_of_getElem? (i := 9) rfl)) rfl
theorem fk_X9_217 : Cond.fieldLink RX9 217 (TX9 39).1 (TX9 39).2.1 (TX9 39).2.2.1 ∈ lw_ok := lw_ok_in (lw_g5 (List.mem_of_getElem? (i := 10) rfl)) rfl
theorem fk_X9_263 : Cond.fieldLink RX9 263 (TX9 41).1 (TX9 41).2.1 (TX9 41).2.2.1 ∈ lw_ok := lw_ok_in (lw_g5 (List.mem_of_getElem? (i := 12) rfl)) rfl
theorem fk_X9_287 : Cond.fieldLink RX9 287 (TX9 47).1 (TX9 47).2.1 (TX9 47).2.2.1 ∈ lw_ok := lw_ok_in (lw_g5 (List.mem_of_getElem? (i := 18) rfl)) rfl
theorem lk_L_9 : Cond.methodLink RL 9 yX8_init ∈ lw_ok := lw_ok_in (lw_g1 (List.mem_of_getElem? (i := 18) rfl)) rfl
theorem lk_L_12 : Cond.methodLink RL 12 yX9_init ∈ lw_ok := lw_ok_in (lw_g4 (List.mem_of_getElem? (i := 156) rfl)) rfl
theorem lk_L_13 : Cond.methodLink RL 13 yX8_write ∈ lw_ok := lw_ok_in (lw_g2 (List.mem_of_getElem? (i := 229) rfl)) rfl
theorem lk_L_17 : Cond.methodLink RL 17 yX9_write ∈ lw_ok := lw_ok_in (lw_g5 (List.mem_of_getElem? (i := 116) rfl)) rfl
theorem lk_L_18 : Cond.methodLink RL 18 yX8_wipe ∈ lw_ok := lw_ok_in (lw_g2 (List.mem_of_getElem? (i := 234) rfl)) rfl
theorem lk_L_22 : Cond.methodLink RL 22 yX9_wipe ∈ lw_ok := lw_ok_in (lw_g5 (List.mem_of_getElem? (i := 122) rfl)) rfl
theorem lk_L_23 : Cond.methodLink RL 23 yX8_fault ∈ lw_ok := lw_ok_in (lw_g2 (List.mem_of_getElem? (i := 238) rfl)) rfl
theorem lk_L_26 : Cond.methodLink RL 26 yX9_fault ∈ lw_ok := lw_ok_in (lw_g5 (List.mem_of_getElem? (i := 126) rfl)) rfl
theorem lk_L_27 : Cond.methodLink RL 27 yX8_laid ∈ lw_ok := lw_ok_in (lw_g3 (List.mem_of_getElem? (i := 2) rfl)) rfl
theorem lk_L_30 : Cond.methodLink RL 30 yX9_laid ∈ lw_ok := lw_ok_in (lw_g5 (List.mem_of_getElem? (i := 171) rfl)) rfl
theorem lk_L_31 : Cond.methodLink RL 31 yX8_cell ∈ lw_ok := lw_ok_in (lw_g3 (List.mem_of_getElem? (i := 15) rfl)) rfl
theorem lk_L_35 : Cond.methodLink RL 35 yX9_cell ∈ lw_ok := lw_ok_in (lw_g5 (List.mem_of_getElem? (i := 175) rfl)) rfl
theorem lk_L_36 : Cond.methodLink RL 36 yX8_lake ∈ lw_ok := lw_ok_in (lw_g3 (List.mem_of_getElem? (i := 35) rfl)) rfl
theorem lk_L_39 : Cond.methodLink RL 39 yX9_lake ∈ lw_ok := lw_ok_in (lw_g5 (List.mem_of_getElem? (i := 183) rfl)) rfl
theorem lk_L_40 : Cond.methodLink RL 40 yX8_edge ∈ lw_ok := lw_ok_in (lw_g3 (List.mem_of_getElem? (i := 64) rfl)) rfl
theorem lk_L_43 : Cond.methodLink RL 43 yX9_edge ∈ lw_ok := lw_ok_in (lw_g5 (List.mem_of_getElem? (i := 187) rfl)) rfl
theorem lk_L_44 : Cond.methodLink RL 44 yX8_comes ∈ lw_ok := lw_ok_in (lw_g3 (List.mem_of_getElem? (i := 76) rfl)) rfl
theorem lk_L_47 : Cond.methodLink RL 47 yX9_comes ∈ lw_ok := lw_ok_in (lw_g5 (List.mem_of_getElem? (i := 191) rfl)) rfl
theorem lk_L_48 : Cond.methodLink RL 48 yX8_put ∈ lw_ok := lw_ok_in (lw_g3 (List.mem_of_getElem? (i := 89) rfl)) rfl
theorem lk_L_52 : Cond.methodLink RL 52 yX9_put ∈ lw_ok := lw_ok_in (lw_g5 (List.mem_of_getElem? (i := 196) rfl)) rfl
theorem lk_L_53 : Cond.methodLink RL 53 yX8_dig ∈ lw_ok := lw_ok_in (lw_g3 (List.mem_of_getElem? (i := 111) rfl)) rfl
theorem lk_L_56 : Cond.methodLink RL 56 yX9_dig ∈ lw_ok := lw_ok_in (lw_g5 (List.mem_of_getElem? (i := 206) rfl)) rfl
theorem lk_L_57 : Cond.methodLink RL 57 yX8_pass ∈ lw_ok := lw_ok_in (lw_g3 (List.mem_of_getElem? (i := 124) rfl)) rfl
theorem lk_L_60 : Cond.methodLink RL 60 yX9_pass ∈ lw_ok := lw_ok_in (lw_g5 (List.mem_of_getElem? (i := 210) rfl)) rfl
theorem lk_L_61 : Cond.methodLink RL 61 yX8_undo ∈ lw_ok := lw_ok_in (lw_g3 (List.mem_of_getElem? (i := 149) rfl)) rfl
theorem lk_L_64 : Cond.methodLink RL 64 yX9_undo ∈ lw_ok := lw_ok_in (lw_g5 (List.mem_of_getElem? (i := 215) rfl)) rfl
theorem lk_L_65 : Cond.methodLink RL 65 yX8_behind ∈ lw_ok := lw_ok_in (lw_g3 (List.mem_of_getElem? (i := 176) rfl)) rfl
theorem lk_L_68 : Cond.methodLink RL 68 yX9_behind ∈ lw_ok := lw_ok_in (lw_g5 (List.mem_of_getElem? (i := 219) rfl)) rfl
theorem lk_L_69 : Cond.methodLink RL 69 yX8_worn ∈ lw_ok := lw_ok_in (lw_g3 (List.mem_of_getElem? (i := 184) rfl)) rfl
theorem lk_L_72 : Cond.methodLink RL 72 yX9_worn ∈ lw_ok := lw_ok_in (lw_g5 (List.mem_of_getElem? (i := 235) rfl)) rfl
theorem lk_L_73 : Cond.methodLink RL 73 yX8_over ∈ lw_ok := lw_ok_in (lw_g3 (List.mem_of_getElem? (i := 188) rfl)) rfl
theorem lk_L_76 : Cond.methodLink RL 76 yX9_over ∈ lw_ok := lw_ok_in (lw_g5 (List.mem_of_getElem? (i := 239) rfl)) rfl
theorem lk_L_77 : Cond.methodLink RL 77 yX8_gone ∈ lw_ok := lw_ok_in (lw_g3 (List.mem_of_getElem? (i := 200) rfl)) rfl
theorem lk_L_80 : Cond.methodLink RL 80 yX9_gone ∈ lw_ok := lw_ok_in (lw_g6 (List.mem_of_getElem? (i := 3) rfl)) rfl
theorem lk_L_81 : Cond.methodLink RL 81 yX8_best ∈ lw_ok := lw_ok_in (lw_g3 (List.mem_of_getElem? (i := 212) rfl)) rfl
theorem lk_L_85 : Cond.methodLink RL 85 yX9_best ∈ lw_ok := lw_ok_in (lw_g6 (List.mem_of_getElem? (i := 11) rfl)) rfl
theorem lk_L_86 : Cond.methodLink RL 86 yX8_gap ∈ lw_ok := lw_ok_in (lw_g4 (List.mem_of_getElem? (i := 1) rfl)) rfl
theorem lk_L_89 : Cond.methodLink RL 89 yX9_gap ∈ lw_ok := lw_ok_in (lw_g6 (List.mem_of_getElem? (i := 24) rfl)) rfl
theorem lk_L_90 : Cond.methodLink RL 90 yX8_together ∈ lw_ok := lw_ok_in (lw_g4 (List.mem_of_getElem? (i := 15) rfl)) rfl
theorem lk_L_93 : Cond.methodLink RL 93 yX9_together ∈ lw_ok := lw_ok_in (lw_g6 (List.mem_of_getElem? (i := 32) rfl)) rfl
theorem lk_L_94 : Cond.methodLink RL 94 yX8_slow ∈ lw_ok := lw_ok_in (lw_g4 (List.mem_of_getElem? (i := 50) rfl)) rfl
theorem lk_L_97 : Cond.methodLink RL 97 yX9_slow ∈ lw_ok := lw_ok_in (lw_g6 (List.mem_of_getElem? (i := 42) rfl)) rfl
theorem lk_L_98 : Cond.methodLink RL 98 yX8_fill ∈ lw_ok := lw_ok_in (lw_g4 (List.mem_of_getElem? (i := 59) rfl)) rfl
theorem lk_L_101 : Cond.methodLink RL 101 yX9_fill ∈ lw_ok := lw_ok_in (lw_g6 (List.mem_of_getElem? (i := 50) rfl)) rfl
theorem lk_L_102 : Cond.methodLink RL 102 yX8_trodden ∈ lw_ok := lw_ok_in (lw_g4 (List.mem_of_getElem? (i := 67) rfl)) rfl
theorem lk_L_105 : Cond.methodLink RL 105 yX9_trodden ∈ lw_ok := lw_ok_in (lw_g6 (List.mem_of_getElem? (i := 55) rfl)) rfl
theorem lk_L_106 : Cond.methodLink RL 106 yX8_blame ∈ lw_ok := lw_ok_in (lw_g4 (List.mem_of_getElem? (i := 71) rfl)) rfl
theorem lk_L_109 : Cond.methodLink RL 109 yX9_blame ∈ lw_ok := lw_ok_in (lw_g6 (List.mem_of_getElem? (i := 59) rfl)) rfl
theorem lk_L_110 : Cond.methodLink RL 110 yX8_seen ∈ lw_ok := lw_ok_in (lw_g4 (List.mem_of_getElem? (i := 83) rfl)) rfl
theorem lk_L_113 : Cond.methodLink RL 113 yX9_seen ∈ lw_ok := lw_ok_in (lw_g6 (List.mem_of_getElem? (i := 67) rfl)) rfl
theorem lk_L_114 : Cond.methodLink RL 114 yX8_forget ∈ lw_ok := lw_ok_in (lw_g4 (List.mem_of_getElem? (i := 95) rfl)) rfl
theorem lk_L_117 : Cond.methodLink RL 117 yX9_forget ∈ lw_ok := lw_ok_in (lw_g6 (List.mem_of_getElem? (i := 72) rfl)) rfl
theorem lk_L_118 : Cond.methodLink RL 118 yX8_flows ∈ lw_ok := lw_ok_in (lw_g4 (List.mem_of_getElem? (i := 99) rfl)) rfl
theorem lk_L_121 : Cond.methodLink RL 121 yX9_flows ∈ lw_ok := lw_ok_in (lw_g6 (List.mem_of_getElem? (i := 76) rfl)) rfl
theorem lk_L_122 : Cond.methodLink RL 122 yX8_odds ∈ lw_ok := lw_ok_in (lw_g4 (List.mem_of_getElem? (i := 108) rfl)) rfl
theorem lk_L_125 : Cond.methodLink RL 125 yX9_odds ∈ lw_ok := lw_ok_in (lw_g6 (List.mem_of_getElem? (i := 80) rfl)) rfl
theorem lk_L_126 : Cond.methodLink RL 126 yX8_night ∈ lw_ok := lw_ok_in (lw_g4 (List.mem_of_getElem? (i := 123) rfl)) rfl
theorem lk_L_129 : Cond.methodLink RL 129 yX9_night ∈ lw_ok := lw_ok_in (lw_g6 (List.mem_of_getElem? (i := 89) rfl)) rfl
theorem lk_L_130 : Cond.methodLink RL 130 yX8_keep ∈ lw_ok := lw_ok_in (lw_g4 (List.mem_of_getElem? (i := 134) rfl)) rfl
theorem lk_L_133 : Cond.methodLink RL 133 yX9_keep ∈ lw_ok := lw_ok_in (lw_g6 (List.mem_of_getElem? (i := 98) rfl)) rfl
theorem lk_L_134 : Cond.methodLink RL 134 yX8_back ∈ lw_ok := lw_ok_in (lw_g4 (List.mem_of_getElem? (i := 142) rfl)) rfl
theorem lk_L_137 : Cond.methodLink RL 137 yX9_back ∈ lw_ok := lw_ok_in (lw_g6 (List.mem_of_getElem? (i := 106) rfl)) rfl
theorem lk_L_138 : Cond.methodLink RL 138 yX8_count ∈ lw_ok := lw_ok_in (lw_g4 (List.mem_of_getElem? (i := 146) rfl)) rfl
theorem lk_L_141 : Cond.methodLink RL 141 yX9_count ∈ lw_ok := lw_ok_in (lw_g6 (List.mem_of_getElem? (i := 110) rfl)) rfl
theorem lk_X0_28 : Cond.methodLink RX0 28 Lib.Math.max.name ∈ lw_ok := lw_ok_in (lw_g3 (List.mem_of_getElem? (i := 161) rfl)) rfl
theorem lk_X0_34 : Cond.methodLink RX0 34 yX3_startAnew ∈ lw_ok := lw_ok_in (lw_g3 (List.mem_of_getElem? (i := 166) rfl)) rfl
theorem lk_X0_39 : Cond.methodLink RX0 39 yX0_doOne ∈ lw_ok := lw_ok_in (lw_g3 (List.mem_of_getElem? (i := 167) rfl)) rfl
theorem lk_X0_43 : Cond.methodLink RX0 43 yX3_canRaise ∈ lw_ok := lw_ok_in (lw_g3 (List.mem_of_getElem? (i := 170) rfl)) rfl
theorem lk_X0_47 : Cond.methodLink RX0 47 yX3_layAt ∈ lw_ok := lw_ok_in (lw_g3 (List.mem_of_getElem? (i := 171) rfl)) rfl
theorem lk_X0_51 : Cond.methodLink RX0 51 yX3_canDig ∈ lw_ok := lw_ok_in (lw_g3 (List.mem_of_getElem? (i := 172) rfl)) rfl
theorem lk_X0_54 : Cond.methodLink RX0 54 yX3_digAt ∈ lw_ok := lw_ok_in (lw_g3 (List.mem_of_getElem? (i := 173) rfl)) rfl
theorem lk_X0_58 : Cond.methodLink RX0 58 yX3_canPass ∈ lw_ok := lw_ok_in (lw_g3 (List.mem_of_getElem? (i := 174) rfl)) rfl
theorem lk_X0_62 : Cond.methodLink RX0 62 yX3_letPass ∈ lw_ok := lw_ok_in (lw_g3 (List.mem_of_getElem? (i := 175) rfl)) rfl
theorem lk_X1_37 : Cond.methodLink RX1 37 yX1_flowIn ∈ lw_ok := lw_ok_in (lw_g2 (List.mem_of_getElem? (i := 147) rfl)) rfl
theorem lk_X1_41 : Cond.methodLink RX1 41 yX1_rainIn ∈ lw_ok := lw_ok_in (lw_g2 (List.mem_of_getElem? (i := 151) rfl)) rfl
theorem lk_X1_44 : Cond.methodLink RX1 44 Lib.Math.min.name ∈ lw_ok := lw_ok_in (lw_g3 (List.mem_of_getElem? (i := 88) rfl)) rfl
theorem lk_X2_33 : Cond.methodLink RX2 33 yX7_numberAt ∈ lw_ok := lw_ok_in (lw_g2 (List.mem_of_getElem? (i := 136) rfl)) rfl
theorem lk_X2_39 : (RX2, 39, yX8_isStuff, "DamOfTurf") ∈ vv_nest := List.mem_of_getElem? (i := 0) rfl
theorem lk_X2_43 : (RX2, 43, yX8_isWithin, "DamOfTurf") ∈ vv_nest := List.mem_of_getElem? (i := 1) rfl
theorem lk_X2_47 : Cond.methodLink RX2 47 yX2_wayCount ∈ lw_ok := lw_ok_in (lw_g4 (List.mem_of_getElem? (i := 31) rfl)) rfl
theorem lk_X2_51 : Cond.methodLink RX2 51 yX2_minutesBy ∈ lw_ok := lw_ok_in (lw_g4 (List.mem_of_getElem? (i := 35) rfl)) rfl
theorem lk_X2_54 : Cond.methodLink RX2 54 yX2_whoDoes ∈ lw_ok := lw_ok_in (lw_g4 (List.mem_of_getElem? (i := 39) rfl)) rfl
theorem lk_X2_58 : Cond.methodLink RX2 58 yX2_minutesFor ∈ lw_ok := lw_ok_in (lw_g4 (List.mem_of_getElem? (i := 43) rfl)) rfl
theorem lk_X2_61 : Cond.methodLink RX2 61 Lib.Math.max.name ∈ lw_ok := lw_ok_in (lw_g4 (List.mem_of_getElem? (i := 47) rfl)) rfl
theorem lk_X3_25 : Cond.methodLink RX3 25 yX4_firstHeight ∈ lw_ok := lw_ok_in (lw_g2 (List.mem_of_getElem? (i := 163) rfl)) rfl
theorem lk_X3_31 : Cond.methodLink RX3 31 yX4_firstStuff ∈ lw_ok := lw_ok_in (lw_g2 (List.mem_of_getElem? (i := 167) rfl)) rfl
theorem lk_X3_47 : Cond.methodLink RX3 47 yX3_survey ∈ lw_ok := lw_ok_in (lw_g2 (List.mem_of_getElem? (i := 171) rfl)) rfl
theorem lk_X3_50 : Cond.methodLink RX3 50 yX4_left ∈ lw_ok := lw_ok_in (lw_g2 (List.mem_of_getElem? (i := 175) rfl)) rfl
theorem lk_X3_54 : Cond.methodLink RX3 54 yX4_right ∈ lw_ok := lw_ok_in (lw_g2 (List.mem_of_getElem? (i := 179) rfl)) rfl
theorem lk_X3_57 : Cond.methodLink RX3 57 Lib.Math.min.name ∈ lw_ok := lw_ok_in (lw_g2 (List.mem_of_getElem? (i := 183) rfl)) rfl
theorem lk_X3_75 : Cond.methodLink RX3 75 yX4_cellCount ∈ lw_ok := lw_ok_in (lw_g2 (List.mem_of_getElem? (i := 186) rfl)) rfl
theorem lk_X3_78 : Cond.methodLink RX3 78 yX4_takes ∈ lw_ok := lw_ok_in (lw_g2 (List.mem_of_getElem? (i := 190) rfl)) rfl
theorem lk_X3_84 : Cond.methodLink RX3 84 yX4_brook ∈ lw_ok := lw_ok_in (lw_g3 (List.mem_of_getElem? (i := 140) rfl)) rfl
theorem lk_X3_88 : Cond.methodLink RX3 88 yX1_comesIn ∈ lw_ok := lw_ok_in (lw_g3 (List.mem_of_getElem? (i := 141) rfl)) rfl
theorem lk_X3_93 : Cond.methodLink RX3 93 yX4_levelOf ∈ lw_ok := lw_ok_in (lw_g3 (List.mem_of_getElem? (i := 43) rfl)) rfl
theorem lk_X3_96 : Cond.methodLink RX3 96 Lib.Math.max.name ∈ lw_ok := lw_ok_in (lw_g3 (List.mem_of_getElem? (i := 142) rfl)) rfl
theorem lk_X3_108 : Cond.methodLink RX3 108 yX3_wears ∈ lw_ok := lw_ok_in (lw_g3 (List.mem_of_getElem? (i := 145) rfl)) rfl
theorem lk_X3_112 : Cond.methodLink RX3 112 yX3_oneMinute ∈ lw_ok := lw_ok_in (lw_g3 (List.mem_of_getElem? (i := 136) rfl)) rfl
theorem lk_X3_116 : Cond.methodLink RX3 116 yX3_heightAt ∈ lw_ok := lw_ok_in (lw_g3 (List.mem_of_getElem? (i := 98) rfl)) rfl
theorem lk_X3_119 : Cond.methodLink RX3 119 yX3_remake ∈ lw_ok := lw_ok_in (lw_g3 (List.mem_of_getElem? (i := 107) rfl)) rfl
theorem lk_X3_123 : Cond.methodLink RX3 123 yX3_stuffAt ∈ lw_ok := lw_ok_in (lw_g3 (List.mem_of_getElem? (i := 123) rfl)) rfl
theorem lk_X3_126 : Cond.methodLink RX3 126 yX3_allBreaches ∈ lw_ok := lw_ok_in (lw_g4 (List.mem_of_getElem? (i := 79) rfl)) rfl
theorem lk_X4_32 : Cond.methodLink RX4 32 yX4_clear ∈ lw_ok := lw_ok_in (lw_g2 (List.mem_of_getElem? (i := 60) rfl)) rfl
theorem lk_X4_35 : Cond.methodLink RX4 35 yX7_size ∈ lw_ok := lw_ok_in (lw_g2 (List.mem_of_getElem? (i := 72) rfl)) rfl
theorem lk_X4_41 : Cond.methodLink RX4 41 yX7_readItem ∈ lw_ok := lw_ok_in (lw_g2 (List.mem_of_getElem? (i := 76) rfl)) rfl
theorem lk_X4_45 : Cond.methodLink RX4 45 yX7_letterAt ∈ lw_ok := lw_ok_in (lw_g2 (List.mem_of_getElem? (i := 92) rfl)) rfl
theorem lk_X4_48 : Cond.methodLink RX4 48 yX4_takeItem ∈ lw_ok := lw_ok_in (lw_g2 (List.mem_of_getElem? (i := 93) rfl)) rfl
theorem lk_X4_52 : Cond.methodLink RX4 52 yX1_settle ∈ lw_ok := lw_ok_in (lw_g2 (List.mem_of_getElem? (i := 143) rfl)) rfl
theorem lk_X4_71 : Cond.methodLink RX4 71 yX1_clear ∈ lw_ok := lw_ok_in (lw_g2 (List.mem_of_getElem? (i := 64) rfl)) rfl
theorem lk_X4_72 : Cond.methodLink RX4 72 yX2_clear ∈ lw_ok := lw_ok_in (lw_g2 (List.mem_of_getElem? (i := 68) rfl)) rfl
theorem lk_X4_73 : Cond.methodLink RX4 73 yX7_numberCount ∈ lw_ok := lw_ok_in (lw_g2 (List.mem_of_getElem? (i := 97) rfl)) rfl
theorem lk_X4_76 : Cond.methodLink RX4 76 yX7_numberAt ∈ lw_ok := lw_ok_in (lw_g2 (List.mem_of_getElem? (i := 101) rfl)) rfl
theorem lk_X4_79 : Cond.methodLink RX4 79 yX4_addCell ∈ lw_ok := lw_ok_in (lw_g2 (List.mem_of_getElem? (i := 105) rfl)) rfl
theorem lk_X4_83 : Cond.methodLink RX4 83 yX4_setBanks ∈ lw_ok := lw_ok_in (lw_g2 (List.mem_of_getElem? (i := 115) rfl)) rfl
theorem lk_X4_86 : Cond.methodLink RX4 86 yX4_setLake ∈ lw_ok := lw_ok_in (lw_g2 (List.mem_of_getElem? (i := 119) rfl)) rfl
theorem lk_X4_89 : Cond.methodLink RX4 89 yX1_addFlow ∈ lw_ok := lw_ok_in (lw_g2 (List.mem_of_getElem? (i := 124) rfl)) rfl
theorem lk_X4_92 : Cond.methodLink RX4 92 yX1_addRain ∈ lw_ok := lw_ok_in (lw_g2 (List.mem_of_getElem? (i := 128) rfl)) rfl
theorem lk_X4_96 : Cond.methodLink RX4 96 yX2_addChild ∈ lw_ok := lw_ok_in (lw_g2 (List.mem_of_getElem? (i := 132) rfl)) rfl
theorem lk_X4_100 : Cond.methodLink RX4 100 yX2_addJob ∈ lw_ok := lw_ok_in (lw_g2 (List.mem_of_getElem? (i := 137) rfl)) rfl
theorem lk_X4_103 : (RX4, 103, yX8_isStuff, "DamOfTurf") ∈ vv_nest := List.mem_of_getElem? (i := 2) rfl
theorem lk_X4_107 : (RX4, 107, yX8_isWithin, "DamOfTurf") ∈ vv_nest := List.mem_of_getElem? (i := 3) rfl
theorem lk_X4_110 : Cond.methodLink RX4 110 yX4_takes ∈ lw_ok := lw_ok_in (lw_g3 (List.mem_of_getElem? (i := 47) rfl)) rfl
theorem lk_X5_15 : Cond.methodLink RX5 15 Lib.Math.min.name ∈ lw_ok := lw_ok_in (lw_g3 (List.mem_of_getElem? (i := 224) rfl)) rfl
theorem lk_X6_22 : Cond.methodLink RX6 22 yX4_levelOf ∈ lw_ok := lw_ok_in (lw_g4 (List.mem_of_getElem? (i := 107) rfl)) rfl
theorem lk_X7_25 : Cond.methodLink RX7 25 yX7_figuresAt ∈ lw_ok := lw_ok_in (lw_g2 (List.mem_of_getElem? (i := 80) rfl)) rfl
theorem lk_X7_29 : Cond.methodLink RX7 29 yX7_figureAt ∈ lw_ok := lw_ok_in (lw_g2 (List.mem_of_getElem? (i := 84) rfl)) rfl
theorem lk_X7_32 : Cond.methodLink RX7 32 yX7_letterAt ∈ lw_ok := lw_ok_in (lw_g2 (List.mem_of_getElem? (i := 88) rfl)) rfl
theorem lk_X8_28 : Cond.methodLink RX8 28 yX3_init ∈ lw_ok := lw_ok_in (lw_g1 (List.mem_of_getElem? (i := 138) rfl)) rfl
theorem lk_X8_78 : Cond.methodLink RX8 78 yX7_add ∈ lw_ok := lw_ok_in (lw_g2 (List.mem_of_getElem? (i := 52) rfl)) rfl
theorem lk_X8_82 : Cond.methodLink RX8 82 yX4_readFrom ∈ lw_ok := lw_ok_in (lw_g2 (List.mem_of_getElem? (i := 56) rfl)) rfl
theorem lk_X8_86 : Cond.methodLink RX8 86 yX7_clear ∈ lw_ok := lw_ok_in (lw_g2 (List.mem_of_getElem? (i := 155) rfl)) rfl
theorem lk_X8_89 : Cond.methodLink RX8 89 yX3_startAnew ∈ lw_ok := lw_ok_in (lw_g2 (List.mem_of_getElem? (i := 159) rfl)) rfl
theorem lk_X8_92 : Cond.methodLink RX8 92 yX8_isWithin ∈ lw_ok := lw_ok_in (lw_g2 (List.mem_of_getElem? (i := 112) rfl)) rfl
theorem lk_X8_96 : Cond.methodLink RX8 96 yX7_size ∈ lw_ok := lw_ok_in (lw_g2 (List.mem_of_getElem? (i := 233) rfl)) rfl
theorem lk_X8_99 : Cond.methodLink RX8 99 yX4_cellCount ∈ lw_ok := lw_ok_in (lw_g3 (List.mem_of_getElem? (i := 6) rfl)) rfl
theorem lk_X8_102 : Cond.methodLink RX8 102 yX0_clear ∈ lw_ok := lw_ok_in (lw_g3 (List.mem_of_getElem? (i := 7) rfl)) rfl
theorem lk_X8_107 : Cond.methodLink RX8 107 yX6_clear ∈ lw_ok := lw_ok_in (lw_g3 (List.mem_of_getElem? (i := 11) rfl)) rfl
theorem lk_X8_108 : Cond.methodLink RX8 108 yX8_isCell ∈ lw_ok := lw_ok_in (lw_g3 (List.mem_of_getElem? (i := 19) rfl)) rfl
theorem lk_X8_111 : Cond.methodLink RX8 111 yX3_heightAt ∈ lw_ok := lw_ok_in (lw_g3 (List.mem_of_getElem? (i := 23) rfl)) rfl
theorem lk_X8_115 : Cond.methodLink RX8 115 yX3_stuffAt ∈ lw_ok := lw_ok_in (lw_g3 (List.mem_of_getElem? (i := 27) rfl)) rfl
theorem lk_X8_118 : Cond.methodLink RX8 118 yX3_breachesAt ∈ lw_ok := lw_ok_in (lw_g3 (List.mem_of_getElem? (i := 31) rfl)) rfl
theorem lk_X8_121 : Cond.methodLink RX8 121 yX3_level ∈ lw_ok := lw_ok_in (lw_g3 (List.mem_of_getElem? (i := 39) rfl)) rfl
theorem lk_X8_124 : Cond.methodLink RX8 124 yX3_units ∈ lw_ok := lw_ok_in (lw_g3 (List.mem_of_getElem? (i := 48) rfl)) rfl
theorem lk_X8_127 : Cond.methodLink RX8 127 yX3_minutesGone ∈ lw_ok := lw_ok_in (lw_g3 (List.mem_of_getElem? (i := 52) rfl)) rfl
theorem lk_X8_130 : Cond.methodLink RX8 130 yX3_allOver ∈ lw_ok := lw_ok_in (lw_g3 (List.mem_of_getElem? (i := 56) rfl)) rfl
theorem lk_X8_133 : Cond.methodLink RX8 133 yX3_allSeeped ∈ lw_ok := lw_ok_in (lw_g3 (List.mem_of_getElem? (i := 60) rfl)) rfl
theorem lk_X8_136 : Cond.methodLink RX8 136 yX3_edgeHeight ∈ lw_ok := lw_ok_in (lw_g3 (List.mem_of_getElem? (i := 68) rfl)) rfl
theorem lk_X8_139 : Cond.methodLink RX8 139 yX3_lowestPlace ∈ lw_ok := lw_ok_in (lw_g3 (List.mem_of_getElem? (i := 72) rfl)) rfl
theorem lk_X8_142 : Cond.methodLink RX8 142 yX4_brook ∈ lw_ok := lw_ok_in (lw_g3 (List.mem_of_getElem? (i := 80) rfl)) rfl
theorem lk_X8_146 : Cond.methodLink RX8 146 yX1_comesIn ∈ lw_ok := lw_ok_in (lw_g3 (List.mem_of_getElem? (i := 84) rfl)) rfl
theorem lk_X8_151 : Cond.methodLink RX8 151 yX8_isStuff ∈ lw_ok := lw_ok_in (lw_g3 (List.mem_of_getElem? (i := 93) rfl)) rfl
theorem lk_X8_154 : Cond.methodLink RX8 154 yX3_canRaise ∈ lw_ok := lw_ok_in (lw_g3 (List.mem_of_getElem? (i := 94) rfl)) rfl
theorem lk_X8_158 : Cond.methodLink RX8 158 yX0_add ∈ lw_ok := lw_ok_in (lw_g3 (List.mem_of_getElem? (i := 99) rfl)) rfl
theorem lk_X8_161 : Cond.methodLink RX8 161 yX3_layAt ∈ lw_ok := lw_ok_in (lw_g3 (List.mem_of_getElem? (i := 103) rfl)) rfl
theorem lk_X8_165 : Cond.methodLink RX8 165 yX3_canDig ∈ lw_ok := lw_ok_in (lw_g3 (List.mem_of_getElem? (i := 115) rfl)) rfl
theorem lk_X8_168 : Cond.methodLink RX8 168 yX3_digAt ∈ lw_ok := lw_ok_in (lw_g3 (List.mem_of_getElem? (i := 119) rfl)) rfl
theorem lk_X8_172 : Cond.methodLink RX8 172 yX3_canPass ∈ lw_ok := lw_ok_in (lw_g3 (List.mem_of_getElem? (i := 128) rfl)) rfl
theorem lk_X8_175 : Cond.methodLink RX8 175 yX3_letPass ∈ lw_ok := lw_ok_in (lw_g3 (List.mem_of_getElem? (i := 132) rfl)) rfl
theorem lk_X8_178 : Cond.methodLink RX8 178 yX0_size ∈ lw_ok := lw_ok_in (lw_g3 (List.mem_of_getElem? (i := 153) rfl)) rfl
theorem lk_X8_179 : Cond.methodLink RX8 179 yX0_dropLast ∈ lw_ok := lw_ok_in (lw_g3 (List.mem_of_getElem? (i := 157) rfl)) rfl
theorem lk_X8_182 : Cond.methodLink RX8 182 yX0_doAllBut ∈ lw_ok := lw_ok_in (lw_g3 (List.mem_of_getElem? (i := 162) rfl)) rfl
theorem lk_X8_186 : Cond.methodLink RX8 186 yX3_copyFrom ∈ lw_ok := lw_ok_in (lw_g3 (List.mem_of_getElem? (i := 180) rfl)) rfl
theorem lk_X8_190 : Cond.methodLink RX8 190 yX3_passTillOver ∈ lw_ok := lw_ok_in (lw_g3 (List.mem_of_getElem? (i := 192) rfl)) rfl
theorem lk_X8_193 : Cond.methodLink RX8 193 yX3_placeOver ∈ lw_ok := lw_ok_in (lw_g3 (List.mem_of_getElem? (i := 196) rfl)) rfl
theorem lk_X8_196 : Cond.methodLink RX8 196 yX3_passTillBreach ∈ lw_ok := lw_ok_in (lw_g3 (List.mem_of_getElem? (i := 204) rfl)) rfl
theorem lk_X8_199 : Cond.methodLink RX8 199 yX3_breachedCell ∈ lw_ok := lw_ok_in (lw_g3 (List.mem_of_getElem? (i := 208) rfl)) rfl
theorem lk_X8_202 : Cond.methodLink RX8 202 yX8_findBestShares ∈ lw_ok := lw_ok_in (lw_g3 (List.mem_of_getElem? (i := 216) rfl)) rfl
theorem lk_X8_206 : Cond.methodLink RX8 206 yX5_inchesAt ∈ lw_ok := lw_ok_in (lw_g3 (List.mem_of_getElem? (i := 229) rfl)) rfl
theorem lk_X8_209 : Cond.methodLink RX8 209 yX5_start ∈ lw_ok := lw_ok_in (lw_g3 (List.mem_of_getElem? (i := 220) rfl)) rfl
theorem lk_X8_212 : Cond.methodLink RX8 212 yX8_waterWithShares ∈ lw_ok := lw_ok_in (lw_g3 (List.mem_of_getElem? (i := 225) rfl)) rfl
theorem lk_X8_216 : Cond.methodLink RX8 216 yX5_copyFrom ∈ lw_ok := lw_ok_in (lw_g3 (List.mem_of_getElem? (i := 233) rfl)) rfl
theorem lk_X8_219 : Cond.methodLink RX8 219 yX5_next ∈ lw_ok := lw_ok_in (lw_g3 (List.mem_of_getElem? (i := 237) rfl)) rfl
theorem lk_X8_223 : Cond.methodLink RX8 223 yX8_isGap ∈ lw_ok := lw_ok_in (lw_g4 (List.mem_of_getElem? (i := 5) rfl)) rfl
theorem lk_X8_226 : Cond.methodLink RX8 226 yX3_remake ∈ lw_ok := lw_ok_in (lw_g4 (List.mem_of_getElem? (i := 9) rfl)) rfl
theorem lk_X8_229 : Cond.methodLink RX8 229 yX3_oneMinute ∈ lw_ok := lw_ok_in (lw_g4 (List.mem_of_getElem? (i := 10) rfl)) rfl
theorem lk_X8_233 : Cond.methodLink RX8 233 yX3_overInMinute ∈ lw_ok := lw_ok_in (lw_g4 (List.mem_of_getElem? (i := 11) rfl)) rfl
theorem lk_X8_236 : Cond.methodLink RX8 236 yX4_crew ∈ lw_ok := lw_ok_in (lw_g4 (List.mem_of_getElem? (i := 19) rfl)) rfl
theorem lk_X8_240 : Cond.methodLink RX8 240 yX2_jobCount ∈ lw_ok := lw_ok_in (lw_g4 (List.mem_of_getElem? (i := 23) rfl)) rfl
theorem lk_X8_245 : Cond.methodLink RX8 245 yX2_quickestWay ∈ lw_ok := lw_ok_in (lw_g4 (List.mem_of_getElem? (i := 27) rfl)) rfl
theorem lk_X8_248 : Cond.methodLink RX8 248 yX2_minutesBy ∈ lw_ok := lw_ok_in (lw_g4 (List.mem_of_getElem? (i := 48) rfl)) rfl
theorem lk_X8_251 : Cond.methodLink RX8 251 yX2_whoDoes ∈ lw_ok := lw_ok_in (lw_g4 (List.mem_of_getElem? (i := 49) rfl)) rfl
theorem lk_X8_254 : Cond.methodLink RX8 254 yX8_letOut ∈ lw_ok := lw_ok_in (lw_g4 (List.mem_of_getElem? (i := 54) rfl)) rfl
theorem lk_X8_258 : Cond.methodLink RX8 258 Lib.Math.max.name ∈ lw_ok := lw_ok_in (lw_g4 (List.mem_of_getElem? (i := 58) rfl)) rfl
theorem lk_X8_263 : Cond.methodLink RX8 263 yX3_empty ∈ lw_ok := lw_ok_in (lw_g4 (List.mem_of_getElem? (i := 63) rfl)) rfl
theorem lk_X8_266 : Cond.methodLink RX8 266 yX3_wasBreached ∈ lw_ok := lw_ok_in (lw_g4 (List.mem_of_getElem? (i := 75) rfl)) rfl
theorem lk_X8_269 : Cond.methodLink RX8 269 yX6_add ∈ lw_ok := lw_ok_in (lw_g4 (List.mem_of_getElem? (i := 87) rfl)) rfl
theorem lk_X8_271 : Cond.methodLink RX8 271 yX6_size ∈ lw_ok := lw_ok_in (lw_g4 (List.mem_of_getElem? (i := 91) rfl)) rfl
theorem lk_X8_272 : Cond.methodLink RX8 272 yX6_agreeWith ∈ lw_ok := lw_ok_in (lw_g4 (List.mem_of_getElem? (i := 103) rfl)) rfl
theorem lk_X8_276 : Cond.methodLink RX8 276 yX8_holdsIn ∈ lw_ok := lw_ok_in (lw_g4 (List.mem_of_getElem? (i := 112) rfl)) rfl
theorem lk_X8_279 : Cond.methodLink RX8 279 yX8_chanceOf ∈ lw_ok := lw_ok_in (lw_g4 (List.mem_of_getElem? (i := 117) rfl)) rfl
theorem lk_X8_282 : Cond.methodLink RX8 282 yX8_greatestDivisor ∈ lw_ok := lw_ok_in (lw_g4 (List.mem_of_getElem? (i := 120) rfl)) rfl
theorem lk_X8_285 : Cond.methodLink RX8 285 yX3_allBreaches ∈ lw_ok := lw_ok_in (lw_g4 (List.mem_of_getElem? (i := 116) rfl)) rfl
theorem lk_X8_288 : Cond.methodLink RX8 288 yX8_drawOf ∈ lw_ok := lw_ok_in (lw_g4 (List.mem_of_getElem? (i := 127) rfl)) rfl
theorem lk_X8_299 : Cond.methodLink RX8 299 yX0_copyFrom ∈ lw_ok := lw_ok_in (lw_g4 (List.mem_of_getElem? (i := 138) rfl)) rfl
theorem lk_X8_302 : Cond.methodLink RX8 302 yX2_childCount ∈ lw_ok := lw_ok_in (lw_g4 (List.mem_of_getElem? (i := 150) rfl)) rfl
theorem lk_X9_127 : Cond.methodLink RX9 127 yX9_noDam ∈ lw_ok := lw_ok_in (lw_g4 (List.mem_of_getElem? (i := 160) rfl)) rfl
theorem lk_X9_131 : Cond.methodLink RX9 131 yX9_begin ∈ lw_ok := lw_ok_in (lw_g4 (List.mem_of_getElem? (i := 164) rfl)) rfl
theorem lk_X9_138 : Cond.methodLink RX9 138 yX9_in ∈ lw_ok := lw_ok_in (lw_g4 (List.mem_of_getElem? (i := 188) rfl)) rfl
theorem lk_X9_149 : Cond.methodLink RX9 149 yX9_letterAt ∈ lw_ok := lw_ok_in (lw_g5 (List.mem_of_getElem? (i := 138) rfl)) rfl
theorem lk_X9_159 : Cond.methodLink RX9 159 yX9_figures ∈ lw_ok := lw_ok_in (lw_g5 (List.mem_of_getElem? (i := 146) rfl)) rfl
theorem lk_X9_165 : Cond.methodLink RX9 165 yX9_cellItem ∈ lw_ok := lw_ok_in (lw_g5 (List.mem_of_getElem? (i := 142) rfl)) rfl
theorem lk_X9_171 : Cond.methodLink RX9 171 yX9_flowItem ∈ lw_ok := lw_ok_in (lw_g5 (List.mem_of_getElem? (i := 154) rfl)) rfl
theorem lk_X9_174 : Cond.methodLink RX9 174 yX9_rainItem ∈ lw_ok := lw_ok_in (lw_g5 (List.mem_of_getElem? (i := 158) rfl)) rfl
theorem lk_X9_177 : Cond.methodLink RX9 177 yX9_childItem ∈ lw_ok := lw_ok_in (lw_g5 (List.mem_of_getElem? (i := 162) rfl)) rfl
theorem lk_X9_180 : Cond.methodLink RX9 180 yX9_jobItem ∈ lw_ok := lw_ok_in (lw_g5 (List.mem_of_getElem? (i := 166) rfl)) rfl
theorem lk_X9_183 : Cond.methodLink RX9 183 yX9_item ∈ lw_ok := lw_ok_in (lw_g5 (List.mem_of_getElem? (i := 134) rfl)) rfl
theorem lk_X9_186 : Cond.methodLink RX9 186 yX9_readAll ∈ lw_ok := lw_ok_in (lw_g5 (List.mem_of_getElem? (i := 130) rfl)) rfl
theorem lk_X9_196 : Cond.methodLink RX9 196 yX9_takes ∈ lw_ok := lw_ok_in (lw_g4 (List.mem_of_getElem? (i := 195) rfl)) rfl
theorem lk_X9_199 : Cond.methodLink RX9 199 yX9_edgeOf ∈ lw_ok := lw_ok_in (lw_g4 (List.mem_of_getElem? (i := 199) rfl)) rfl
theorem lk_X9_205 : Cond.methodLink RX9 205 yX9_comesIn ∈ lw_ok := lw_ok_in (lw_g4 (List.mem_of_getElem? (i := 184) rfl)) rfl
theorem lk_X9_208 : Cond.methodLink RX9 208 yX9_levelOf ∈ lw_ok := lw_ok_in (lw_g4 (List.mem_of_getElem? (i := 191) rfl)) rfl
theorem lk_X9_214 : Cond.methodLink RX9 214 yX9_placeOf ∈ lw_ok := lw_ok_in (lw_g4 (List.mem_of_getElem? (i := 203) rfl)) rfl
theorem lk_X9_220 : Cond.methodLink RX9 220 yX9_wear ∈ lw_ok := lw_ok_in (lw_g4 (List.mem_of_getElem? (i := 207) rfl)) rfl
theorem lk_X9_224 : Cond.methodLink RX9 224 yX9_go ∈ lw_ok := lw_ok_in (lw_g4 (List.mem_of_getElem? (i := 180) rfl)) rfl
theorem lk_X9_227 : Cond.methodLink RX9 227 yX9_canDo ∈ lw_ok := lw_ok_in (lw_g4 (List.mem_of_getElem? (i := 172) rfl)) rfl
theorem lk_X9_231 : Cond.methodLink RX9 231 yX9_doAct ∈ lw_ok := lw_ok_in (lw_g4 (List.mem_of_getElem? (i := 176) rfl)) rfl
theorem lk_X9_234 : Cond.methodLink RX9 234 yX9_beginBut ∈ lw_ok := lw_ok_in (lw_g4 (List.mem_of_getElem? (i := 168) rfl)) rfl
theorem lk_X9_237 : Cond.methodLink RX9 237 yX9_isCell ∈ lw_ok := lw_ok_in (lw_g5 (List.mem_of_getElem? (i := 179) rfl)) rfl
theorem lk_X9_246 : Cond.methodLink RX9 246 yX9_note ∈ lw_ok := lw_ok_in (lw_g5 (List.mem_of_getElem? (i := 202) rfl)) rfl
theorem lk_X9_254 : Cond.methodLink RX9 254 yX9_tryIt ∈ lw_ok := lw_ok_in (lw_g5 (List.mem_of_getElem? (i := 231) rfl)) rfl
theorem lk_X9_257 : Cond.methodLink RX9 257 yX9_areMinutes ∈ lw_ok := lw_ok_in (lw_g5 (List.mem_of_getElem? (i := 223) rfl)) rfl
theorem lk_X9_260 : Cond.methodLink RX9 260 yX9_goOn ∈ lw_ok := lw_ok_in (lw_g5 (List.mem_of_getElem? (i := 227) rfl)) rfl
theorem lk_X9_266 : Cond.methodLink RX9 266 yX9_goneFrom ∈ lw_ok := lw_ok_in (lw_g6 (List.mem_of_getElem? (i := 7) rfl)) rfl
theorem lk_X9_271 : Cond.methodLink RX9 271 yX9_layRow ∈ lw_ok := lw_ok_in (lw_g6 (List.mem_of_getElem? (i := 16) rfl)) rfl
theorem lk_X9_274 : Cond.methodLink RX9 274 yX9_nextRow ∈ lw_ok := lw_ok_in (lw_g6 (List.mem_of_getElem? (i := 20) rfl)) rfl
theorem lk_X9_277 : Cond.methodLink RX9 277 yX9_isGap ∈ lw_ok := lw_ok_in (lw_g6 (List.mem_of_getElem? (i := 28) rfl)) rfl
theorem lk_X9_284 : Cond.methodLink RX9 284 yX9_timeOf ∈ lw_ok := lw_ok_in (lw_g6 (List.mem_of_getElem? (i := 37) rfl)) rfl
theorem lk_X9_290 : Cond.methodLink RX9 290 yX9_isSlow ∈ lw_ok := lw_ok_in (lw_g6 (List.mem_of_getElem? (i := 46) rfl)) rfl
theorem lk_X9_295 : Cond.methodLink RX9 295 yX9_breaches ∈ lw_ok := lw_ok_in (lw_g6 (List.mem_of_getElem? (i := 63) rfl)) rfl
theorem lk_X9_302 : Cond.methodLink RX9 302 yX9_holds ∈ lw_ok := lw_ok_in (lw_g6 (List.mem_of_getElem? (i := 85) rfl)) rfl
theorem lk_X9_315 : Cond.methodLink RX9 315 yX9_copy ∈ lw_ok := lw_ok_in (lw_g6 (List.mem_of_getElem? (i := 102) rfl)) rfl
theorem lc_X8_291 : Cond.constantLong RX8 291 7919 ∈ lw_ok := lw_ok_in (lw_g4 (List.mem_of_getElem? (i := 130) rfl)) rfl
theorem lc_X8_293 : Cond.constantLong RX8 293 6151 ∈ lw_ok := lw_ok_in (lw_g4 (List.mem_of_getElem? (i := 131) rfl)) rfl
theorem lc_X8_295 : Cond.constantLong RX8 295 65521 ∈ lw_ok := lw_ok_in (lw_g4 (List.mem_of_getElem? (i := 132) rfl)) rfl
theorem lc_X8_297 : Cond.constantLong RX8 297 16 ∈ lw_ok := lw_ok_in (lw_g4 (List.mem_of_getElem? (i := 133) rfl)) rfl
theorem lc_X9_134 : Cond.constantLong RX9 134 32 ∈ lw_ok := lw_ok_in (lw_g5 (List.mem_of_getElem? (i := 120) rfl)) rfl
theorem lc_X9_136 : Cond.constantLong RX9 136 126 ∈ lw_ok := lw_ok_in (lw_g5 (List.mem_of_getElem? (i := 121) rfl)) rfl
theorem lc_X9_153 : Cond.constantLong RX9 153 48 ∈ lw_ok := lw_ok_in (lw_g5 (List.mem_of_getElem? (i := 150) rfl)) rfl
theorem lc_X9_155 : Cond.constantLong RX9 155 57 ∈ lw_ok := lw_ok_in (lw_g5 (List.mem_of_getElem? (i := 151) rfl)) rfl
theorem lc_X9_157 : Cond.constantLong RX9 157 2 ∈ lw_ok := lw_ok_in (lw_g5 (List.mem_of_getElem? (i := 152) rfl)) rfl
theorem lc_X9_163 : Cond.constantLong RX9 163 30 ∈ lw_ok := lw_ok_in (lw_g5 (List.mem_of_getElem? (i := 170) rfl)) rfl
theorem lc_X9_169 : Cond.constantLong RX9 169 20 ∈ lw_ok := lw_ok_in (lw_g5 (List.mem_of_getElem? (i := 153) rfl)) rfl
theorem lc_X9_240 : Cond.constantLong RX9 240 999 ∈ lw_ok := lw_ok_in (lw_g5 (List.mem_of_getElem? (i := 195) rfl)) rfl
theorem lc_X9_242 : Cond.constantLong RX9 242 3 ∈ lw_ok := lw_ok_in (lw_g5 (List.mem_of_getElem? (i := 200) rfl)) rfl
theorem lc_X9_244 : Cond.constantLong RX9 244 9 ∈ lw_ok := lw_ok_in (lw_g5 (List.mem_of_getElem? (i := 201) rfl)) rfl
theorem lc_X9_250 : Cond.constantLong RX9 250 60 ∈ lw_ok := lw_ok_in (lw_g5 (List.mem_of_getElem? (i := 214) rfl)) rfl
theorem lc_X9_252 : Cond.constantLong RX9 252 200 ∈ lw_ok := lw_ok_in (lw_g5 (List.mem_of_getElem? (i := 226) rfl)) rfl
theorem lc_X9_269 : Cond.constantLong RX9 269 5 ∈ lw_ok := lw_ok_in (lw_g6 (List.mem_of_getElem? (i := 15) rfl)) rfl
theorem lc_X9_282 : Cond.constantLong RX9 282 (-1) ∈ lw_ok := lw_ok_in (lw_g6 (List.mem_of_getElem? (i := 36) rfl)) rfl
theorem lc_X9_293 : Cond.constantLong RX9 293 40 ∈ lw_ok := lw_ok_in (lw_g6 (List.mem_of_getElem? (i := 54) rfl)) rfl
theorem lc_X9_298 : Cond.constantLong RX9 298 99 ∈ lw_ok := lw_ok_in (lw_g6 (List.mem_of_getElem? (i := 71) rfl)) rfl
theorem lc_X9_300 : Cond.constantLong RX9 300 10 ∈ lw_ok := lw_ok_in (lw_g6 (List.mem_of_getElem? (i := 84) rfl)) rfl
theorem lc_X9_305 : Cond.constantLong RX9 305 9999 ∈ lw_ok := lw_ok_in (lw_g6 (List.mem_of_getElem? (i := 93) rfl)) rfl
theorem lc_X9_307 : Cond.constantLong RX9 307 7919 ∈ lw_ok := lw_ok_in (lw_g6 (List.mem_of_getElem? (i := 94) rfl)) rfl
theorem lc_X9_309 : Cond.constantLong RX9 309 6151 ∈ lw_ok := lw_ok_in (lw_g6 (List.mem_of_getElem? (i := 95) rfl)) rfl
theorem lc_X9_311 : Cond.constantLong RX9 311 65521 ∈ lw_ok := lw_ok_in (lw_g6 (List.mem_of_getElem? (i := 96) rfl)) rfl
theorem lc_X9_313 : Cond.constantLong RX9 313 16 ∈ lw_ok := lw_ok_in (lw_g6 (List.mem_of_getElem? (i := 97) rfl)) rfl
theorem lw_X9_281 : Cond.constant RX9 281 100000 ∈ lw_ok := lw_ok_in (lw_g6 (List.mem_of_getElem? (i := 41) rfl)) rfl
theorem ma_max : Cond.static Lib.Math.max.name ∈ lw_ok := lw_ok_in (lw_g3 (List.mem_of_getElem? (i := 143) rfl)) rfl
theorem mb_max : Cond.initialized "java/lang/Math" ∈ lw_ok := lw_ok_in (lw_g1 (List.mem_of_getElem? (i := 14) rfl)) rfl
theorem mc_max : Cond.code Lib.Math.max.name Lib.Math.max.code 2 (some .int) ∈ lw_ok := lw_ok_in (lw_g3 (List.mem_of_getElem? (i := 144) rfl)) rfl
theorem mk_max : Cond.static Lib.Math.max.name ∈ lw_ok ∧ Cond.initialized "java/lang/Math" ∈ lw_ok ∧ Cond.code Lib.Math.max.name Lib.Math.max.code 2 (some .int) ∈ lw_ok := ⟨ma_max, mb_max, mc_max⟩
theorem ma_min : Cond.static Lib.Math.min.name ∈ lw_ok := lw_ok_in (lw_g2 (List.mem_of_getElem? (i := 184) rfl)) rfl
theorem mc_min : Cond.code Lib.Math.min.name Lib.Math.min.code 2 (some .int) ∈ lw_ok := lw_ok_in (lw_g2 (List.mem_of_getElem? (i := 185) rfl)) rfl
theorem mk_min : Cond.static Lib.Math.min.name ∈ lw_ok ∧ Cond.initialized "java/lang/Math" ∈ lw_ok ∧ Cond.code Lib.Math.min.name Lib.Math.min.code 2 (some .int) ∈ lw_ok := ⟨ma_min, mb_max, mc_min⟩
theorem in_X0 : Cond.initialized RX0 ∈ lw_ok := lw_ok_in (lw_g1 (List.mem_of_getElem? (i := 7) rfl)) rfl
theorem in_X1 : Cond.initialized RX1 ∈ lw_ok := lw_ok_in (lw_g1 (List.mem_of_getElem? (i := 4) rfl)) rfl
theorem in_X2 : Cond.initialized RX2 ∈ lw_ok := lw_ok_in (lw_g1 (List.mem_of_getElem? (i := 5) rfl)) rfl
theorem in_X3 : Cond.initialized RX3 ∈ lw_ok := lw_ok_in (lw_g1 (List.mem_of_getElem? (i := 6) rfl)) rfl
theorem in_X4 : Cond.initialized RX4 ∈ lw_ok := lw_ok_in (lw_g1 (List.mem_of_getElem? (i := 3) rfl)) rfl
theorem in_X5 : Cond.initialized RX5 ∈ lw_ok := lw_ok_in (lw_g1 (List.mem_of_getElem? (i := 9) rfl)) rfl
theorem in_X6 : Cond.initialized RX6 ∈ lw_ok := lw_ok_in (lw_g1 (List.mem_of_getElem? (i := 8) rfl)) rfl
theorem in_X7 : Cond.initialized RX7 ∈ lw_ok := lw_ok_in (lw_g1 (List.mem_of_getElem? (i := 2) rfl)) rfl
theorem in_X8 : Cond.initialized RX8 ∈ lw_ok := lw_ok_in (lw_g1 (List.mem_of_getElem? (i := 1) rfl)) rfl
theorem in_X9 : Cond.initialized RX9 ∈ lw_ok := lw_ok_in (lw_g1 (List.mem_of_getElem? (i := 15) rfl)) rfl
theorem cd_X0_init : Cond.code yX0_init cX0_init 1 none ∈ lw_ok := lw_ok_in (lw_g1 (List.mem_of_getElem? (i := 195) rfl)) rfl
theorem yk_X0_init : vv_yok yX0_init cX0_init 1 none 0 := ⟨cd_X0_init, in_X0, by decide +kernel⟩
theorem cd_X0_size : Cond.code yX0_size cX0_size 1 (some .int) ∈ lw_ok := lw_ok_in (lw_g3 (List.mem_of_getElem? (i := 156) rfl)) rfl
theorem yk_X0_size : vv_yok yX0_size cX0_size 1 (some .int) 0 := ⟨cd_X0_size, in_X0, by decide +kernel⟩
theorem vi_X0_size : Cond.instanceMethod yX0_size ∈ lw_ok := lw_ok_in (lw_g3 (List.mem_of_getElem? (i := 154) rfl)) rfl
theorem vs_X0_size : Cond.selects yX0_size.cls yX0_size yX0_size ∈ lw_ok := lw_ok_in (lw_g3 (List.mem_of_getElem? (i := 155) rfl)) rfl
theorem vk_X0_size : vv_vok yX0_size := ⟨vi_X0_size, vs_X0_size⟩
theorem cd_X0_clear : Cond.code yX0_clear cX0_clear 1 none ∈ lw_ok := lw_ok_in (lw_g3 (List.mem_of_getElem? (i := 10) rfl)) rfl
theorem yk_X0_clear : vv_yok yX0_clear cX0_clear 1 none 0 := ⟨cd_X0_clear, in_X0, by decide +kernel⟩
theorem vi_X0_clear : Cond.instanceMethod yX0_clear ∈ lw_ok := lw_ok_in (lw_g3 (List.mem_of_getElem? (i := 8) rfl)) rfl
theorem vs_X0_clear : Cond.selects yX0_clear.cls yX0_clear yX0_clear ∈ lw_ok := lw_ok_in (lw_g3 (List.mem_of_getElem? (i := 9) rfl)) rfl
theorem vk_X0_clear : vv_vok yX0_clear := ⟨vi_X0_clear, vs_X0_clear⟩
theorem cd_X0_add : Cond.code yX0_add cX0_add 5 (some .boolean) ∈ lw_ok := lw_ok_in (lw_g3 (List.mem_of_getElem? (i := 102) rfl)) rfl
theorem yk_X0_add : vv_yok yX0_add cX0_add 5 (some .boolean) 4 := ⟨cd_X0_add, in_X0, by decide +kernel⟩
theorem vi_X0_add : Cond.instanceMethod yX0_add ∈ lw_ok := lw_ok_in (lw_g3 (List.mem_of_getElem? (i := 100) rfl)) rfl
theorem vs_X0_add : Cond.selects yX0_add.cls yX0_add yX0_add ∈ lw_ok := lw_ok_in (lw_g3 (List.mem_of_getElem? (i := 101) rfl)) rfl
theorem vk_X0_add : vv_vok yX0_add := ⟨vi_X0_add, vs_X0_add⟩
theorem cd_X0_dropLast : Cond.code yX0_dropLast cX0_dropLast 1 none ∈ lw_ok := lw_ok_in (lw_g3 (List.mem_of_getElem? (i := 160) rfl)) rfl
theorem yk_X0_dropLast : vv_yok yX0_dropLast cX0_dropLast 1 none 0 := ⟨cd_X0_dropLast, in_X0, by decide +kernel⟩
theorem vi_X0_dropLast : Cond.instanceMethod yX0_dropLast ∈ lw_ok := lw_ok_in (lw_g3 (List.mem_of_getElem? (i := 158) rfl)) rfl
theorem vs_X0_dropLast : Cond.selects yX0_dropLast.cls yX0_dropLast yX0_dropLast ∈ lw_ok := lw_ok_in (lw_g3 (List.mem_of_getElem? (i := 159) rfl)) rfl
theorem vk_X0_dropLast : vv_vok yX0_dropLast := ⟨vi_X0_dropLast, vs_X0_dropLast⟩
theorem cd_X0_copyFrom : Cond.code yX0_copyFrom cX0_copyFrom 3 none ∈ lw_ok := lw_ok_in (lw_g4 (List.mem_of_getElem? (i := 141) rfl)) rfl
theorem yk_X0_copyFrom : vv_yok yX0_copyFrom cX0_copyFrom 3 none 1 := ⟨cd_X0_copyFrom, in_X0, by decide +kernel⟩
theorem vi_X0_copyFrom : Cond.instanceMethod yX0_copyFrom ∈ lw_ok := lw_ok_in (lw_g4 (List.mem_of_getElem? (i := 139) rfl)) rfl
theorem vs_X0_copyFrom : Cond.selects yX0_copyFrom.cls yX0_copyFrom yX0_copyFrom ∈ lw_ok := lw_ok_in (lw_g4 (List.mem_of_getElem? (i := 140) rfl)) rfl
theorem vk_X0_copyFrom : vv_vok yX0_copyFrom := ⟨vi_X0_copyFrom, vs_X0_copyFrom⟩
theorem cd_X0_doAllBut : Cond.code yX0_doAllBut cX0_doAllBut 4 none ∈ lw_ok := lw_ok_in (lw_g3 (List.mem_of_getElem? (i := 165) rfl)) rfl
theorem yk_X0_doAllBut : vv_yok yX0_doAllBut cX0_doAllBut 4 none 2 := ⟨cd_X0_doAllBut, in_X0, by decide +kernel⟩
theorem vi_X0_doAllBut : Cond.instanceMethod yX0_doAllBut ∈ lw_ok := lw_ok_in (lw_g3 (List.mem_of_getElem? (i := 163) rfl)) rfl
theorem vs_X0_doAllBut : Cond.selects yX0_doAllBut.cls yX0_doAllBut yX0_doAllBut ∈ lw_ok := lw_ok_in (lw_g3 (List.mem_of_getElem? (i := 164) rfl)) rfl
theorem vk_X0_doAllBut : vv_vok yX0_doAllBut := ⟨vi_X0_doAllBut, vs_X0_doAllBut⟩
theorem cd_X0_doOne : Cond.code yX0_doOne cX0_doOne 5 none ∈ lw_ok := lw_ok_in (lw_g3 (List.mem_of_getElem? (i := 169) rfl)) rfl
theorem yk_X0_doOne : vv_yok yX0_doOne cX0_doOne 5 none 5 := ⟨cd_X0_doOne, in_X0, by decide +kernel⟩
theorem sk_X0_doOne : Cond.static yX0_doOne ∈ lw_ok := lw_ok_in (lw_g3 (List.mem_of_getElem? (i := 168) rfl)) rfl
theorem cd_X1_init : Cond.code yX1_init cX1_init 1 none ∈ lw_ok := lw_ok_in (lw_g1 (List.mem_of_getElem? (i := 54) rfl)) rfl
theorem yk_X1_init : vv_yok yX1_init cX1_init 1 none 0 := ⟨cd_X1_init, in_X1, by decide +kernel⟩
theorem cd_X1_clear : Cond.code yX1_clear cX1_clear 1 none ∈ lw_ok := lw_ok_in (lw_g2 (List.mem_of_getElem? (i := 67) rfl)) rfl
theorem yk_X1_clear : vv_yok yX1_clear cX1_clear 1 none 0 := ⟨cd_X1_clear, in_X1, by decide +kernel⟩
theorem vi_X1_clear : Cond.instanceMethod yX1_clear ∈ lw_ok := lw_ok_in (lw_g2 (List.mem_of_getElem? (i := 65) rfl)) rfl
theorem vs_X1_clear : Cond.selects yX1_clear.cls yX1_clear yX1_clear ∈ lw_ok := lw_ok_in (lw_g2 (List.mem_of_getElem? (i := 66) rfl)) rfl
theorem vk_X1_clear : vv_vok yX1_clear := ⟨vi_X1_clear, vs_X1_clear⟩
theorem cd_X1_addFlow : Cond.code yX1_addFlow cX1_addFlow 3 (some .boolean) ∈ lw_ok := lw_ok_in (lw_g2 (List.mem_of_getElem? (i := 127) rfl)) rfl
theorem yk_X1_addFlow : vv_yok yX1_addFlow cX1_addFlow 3 (some .boolean) 2 := ⟨cd_X1_addFlow, in_X1, by decide +kernel⟩
theorem vi_X1_addFlow : Cond.instanceMethod yX1_addFlow ∈ lw_ok := lw_ok_in (lw_g2 (List.mem_of_getElem? (i := 125) rfl)) rfl
theorem vs_X1_addFlow : Cond.selects yX1_addFlow.cls yX1_addFlow yX1_addFlow ∈ lw_ok := lw_ok_in (lw_g2 (List.mem_of_getElem? (i := 126) rfl)) rfl
theorem vk_X1_addFlow : vv_vok yX1_addFlow := ⟨vi_X1_addFlow, vs_X1_addFlow⟩
theorem cd_X1_addRain : Cond.code yX1_addRain cX1_addRain 4 (some .boolean) ∈ lw_ok := lw_ok_in (lw_g2 (List.mem_of_getElem? (i := 131) rfl)) rfl
theorem yk_X1_addRain : vv_yok yX1_addRain cX1_addRain 4 (some .boolean) 3 := ⟨cd_X1_addRain, in_X1, by decide +kernel⟩
theorem vi_X1_addRain : Cond.instanceMethod yX1_addRain ∈ lw_ok := lw_ok_in (lw_g2 (List.mem_of_getElem? (i := 129) rfl)) rfl
theorem vs_X1_addRain : Cond.selects yX1_addRain.cls yX1_addRain yX1_addRain ∈ lw_ok := lw_ok_in (lw_g2 (List.mem_of_getElem? (i := 130) rfl)) rfl
theorem vk_X1_addRain : vv_vok yX1_addRain := ⟨vi_X1_addRain, vs_X1_addRain⟩
theorem cd_X1_settle : Cond.code yX1_settle cX1_settle 2 none ∈ lw_ok := lw_ok_in (lw_g2 (List.mem_of_getElem? (i := 146) rfl)) rfl
theorem yk_X1_settle : vv_yok yX1_settle cX1_settle 2 none 0 := ⟨cd_X1_settle, in_X1, by decide +kernel⟩
theorem vi_X1_settle : Cond.instanceMethod yX1_settle ∈ lw_ok := lw_ok_in (lw_g2 (List.mem_of_getElem? (i := 144) rfl)) rfl
theorem vs_X1_settle : Cond.selects yX1_settle.cls yX1_settle yX1_settle ∈ lw_ok := lw_ok_in (lw_g2 (List.mem_of_getElem? (i := 145) rfl)) rfl
theorem vk_X1_settle : vv_vok yX1_settle := ⟨vi_X1_settle, vs_X1_settle⟩
theorem cd_X1_flowIn : Cond.code yX1_flowIn cX1_flowIn 5 (some .int) ∈ lw_ok := lw_ok_in (lw_g2 (List.mem_of_getElem? (i := 150) rfl)) rfl
theorem yk_X1_flowIn : vv_yok yX1_flowIn cX1_flowIn 5 (some .int) 1 := ⟨cd_X1_flowIn, in_X1, by decide +kernel⟩
theorem vi_X1_flowIn : Cond.instanceMethod yX1_flowIn ∈ lw_ok := lw_ok_in (lw_g2 (List.mem_of_getElem? (i := 149) rfl)) rfl
theorem vs_X1_flowIn : Cond.selects yX1_flowIn.cls yX1_flowIn yX1_flowIn ∈ lw_ok := lw_ok_in (lw_g0 (List.mem_of_getElem? (i := 7) rfl)) rfl
theorem vk_X1_flowIn : vv_vok yX1_flowIn := ⟨vi_X1_flowIn, vs_X1_flowIn⟩
theorem cd_X1_rainIn : Cond.code yX1_rainIn cX1_rainIn 4 (some .int) ∈ lw_ok := lw_ok_in (lw_g2 (List.mem_of_getElem? (i := 154) rfl)) rfl
theorem yk_X1_rainIn : vv_yok yX1_rainIn cX1_rainIn 4 (some .int) 1 := ⟨cd_X1_rainIn, in_X1, by decide +kernel⟩
theorem vi_X1_rainIn : Cond.instanceMethod yX1_rainIn ∈ lw_ok := lw_ok_in (lw_g2 (List.mem_of_getElem? (i := 153) rfl)) rfl
theorem vs_X1_rainIn : Cond.selects yX1_rainIn.cls yX1_rainIn yX1_rainIn ∈ lw_ok := lw_ok_in (lw_g0 (List.mem_of_getElem? (i := 8) rfl)) rfl
theorem vk_X1_rainIn : vv_vok yX1_rainIn := ⟨vi_X1_rainIn, vs_X1_rainIn⟩
theorem cd_X1_comesIn : Cond.code yX1_comesIn cX1_comesIn 2 (some .int) ∈ lw_ok := lw_ok_in (lw_g3 (List.mem_of_getElem? (i := 87) rfl)) rfl
theorem yk_X1_comesIn : vv_yok yX1_comesIn cX1_comesIn 2 (some .int) 1 := ⟨cd_X1_comesIn, in_X1, by decide +kernel⟩
theorem vi_X1_comesIn : Cond.instanceMethod yX1_comesIn ∈ lw_ok := lw_ok_in (lw_g3 (List.mem_of_getElem? (i := 85) rfl)) rfl
theorem vs_X1_comesIn : Cond.selects yX1_comesIn.cls yX1_comesIn yX1_comesIn ∈ lw_ok := lw_ok_in (lw_g3 (List.mem_of_getElem? (i := 86) rfl)) rfl
theorem vk_X1_comesIn : vv_vok yX1_comesIn := ⟨vi_X1_comesIn, vs_X1_comesIn⟩
theorem cd_X2_init : Cond.code yX2_init cX2_init 1 none ∈ lw_ok := lw_ok_in (lw_g1 (List.mem_of_getElem? (i := 85) rfl)) rfl
theorem yk_X2_init : vv_yok yX2_init cX2_init 1 none 0 := ⟨cd_X2_init, in_X2, by decide +kernel⟩
theorem cd_X2_clear : Cond.code yX2_clear cX2_clear 1 none ∈ lw_ok := lw_ok_in (lw_g2 (List.mem_of_getElem? (i := 71) rfl)) rfl
theorem yk_X2_clear : vv_yok yX2_clear cX2_clear 1 none 0 := ⟨cd_X2_clear, in_X2, by decide +kernel⟩
theorem vi_X2_clear : Cond.instanceMethod yX2_clear ∈ lw_ok := lw_ok_in (lw_g2 (List.mem_of_getElem? (i := 69) rfl)) rfl
theorem vs_X2_clear : Cond.selects yX2_clear.cls yX2_clear yX2_clear ∈ lw_ok := lw_ok_in (lw_g2 (List.mem_of_getElem? (i := 70) rfl)) rfl
theorem vk_X2_clear : vv_vok yX2_clear := ⟨vi_X2_clear, vs_X2_clear⟩
theorem cd_X2_addChild : Cond.code yX2_addChild cX2_addChild 3 (some .boolean) ∈ lw_ok := lw_ok_in (lw_g2 (List.mem_of_getElem? (i := 135) rfl)) rfl
theorem yk_X2_addChild : vv_yok yX2_addChild cX2_addChild 3 (some .boolean) 1 := ⟨cd_X2_addChild, in_X2, by decide +kernel⟩
theorem vi_X2_addChild : Cond.instanceMethod yX2_addChild ∈ lw_ok := lw_ok_in (lw_g2 (List.mem_of_getElem? (i := 133) rfl)) rfl
theorem vs_X2_addChild : Cond.selects yX2_addChild.cls yX2_addChild yX2_addChild ∈ lw_ok := lw_ok_in (lw_g2 (List.mem_of_getElem? (i := 134) rfl)) rfl
theorem vk_X2_addChild : vv_vok yX2_addChild := ⟨vi_X2_addChild, vs_X2_addChild⟩
theorem cd_X2_addJob : Cond.code yX2_addJob cX2_addJob 3 (some .boolean) ∈ lw_ok := lw_ok_in (lw_g2 (List.mem_of_getElem? (i := 140) rfl)) rfl
theorem yk_X2_addJob : vv_yok yX2_addJob cX2_addJob 3 (some .boolean) 2 := ⟨cd_X2_addJob, in_X2, by decide +kernel⟩
theorem vi_X2_addJob : Cond.instanceMethod yX2_addJob ∈ lw_ok := lw_ok_in (lw_g2 (List.mem_of_getElem? (i := 138) rfl)) rfl
theorem vs_X2_addJob : Cond.selects yX2_addJob.cls yX2_addJob yX2_addJob ∈ lw_ok := lw_ok_in (lw_g2 (List.mem_of_getElem? (i := 139) rfl)) rfl
theorem vk_X2_addJob : vv_vok yX2_addJob := ⟨vi_X2_addJob, vs_X2_addJob⟩
theorem cd_X2_childCount : Cond.code yX2_childCount cX2_childCount 1 (some .int) ∈ lw_ok := lw_ok_in (lw_g4 (List.mem_of_getElem? (i := 153) rfl)) rfl
theorem yk_X2_childCount : vv_yok yX2_childCount cX2_childCount 1 (some .int) 0 := ⟨cd_X2_childCount, in_X2, by decide +kernel⟩
theorem vi_X2_childCount : Cond.instanceMethod yX2_childCount ∈ lw_ok := lw_ok_in (lw_g4 (List.mem_of_getElem? (i := 151) rfl)) rfl
theorem vs_X2_childCount : Cond.selects yX2_childCount.cls yX2_childCount yX2_childCount ∈ lw_ok := lw_ok_in (lw_g4 (List.mem_of_getElem? (i := 152) rfl)) rfl
theorem vk_X2_childCount : vv_vok yX2_childCount := ⟨vi_X2_childCount, vs_X2_childCount⟩
theorem cd_X2_jobCount : Cond.code yX2_jobCount cX2_jobCount 1 (some .int) ∈ lw_ok := lw_ok_in (lw_g4 (List.mem_of_getElem? (i := 26) rfl)) rfl
theorem yk_X2_jobCount : vv_yok yX2_jobCount cX2_jobCount 1 (some .int) 0 := ⟨cd_X2_jobCount, in_X2, by decide +kernel⟩
theorem vi_X2_jobCount : Cond.instanceMethod yX2_jobCount ∈ lw_ok := lw_ok_in (lw_g4 (List.mem_of_getElem? (i := 24) rfl)) rfl
theorem vs_X2_jobCount : Cond.selects yX2_jobCount.cls yX2_jobCount yX2_jobCount ∈ lw_ok := lw_ok_in (lw_g4 (List.mem_of_getElem? (i := 25) rfl)) rfl
theorem vk_X2_jobCount : vv_vok yX2_jobCount := ⟨vi_X2_jobCount, vs_X2_jobCount⟩
theorem cd_X2_quickestWay : Cond.code yX2_quickestWay cX2_quickestWay 6 (some .int) ∈ lw_ok := lw_ok_in (lw_g4 (List.mem_of_getElem? (i := 30) rfl)) rfl
theorem yk_X2_quickestWay : vv_yok yX2_quickestWay cX2_quickestWay 6 (some .int) 0 := ⟨cd_X2_quickestWay, in_X2, by decide +kernel⟩
theorem vi_X2_quickestWay : Cond.instanceMethod yX2_quickestWay ∈ lw_ok := lw_ok_in (lw_g4 (List.mem_of_getElem? (i := 28) rfl)) rfl
theorem vs_X2_quickestWay : Cond.selects yX2_quickestWay.cls yX2_quickestWay yX2_quickestWay ∈ lw_ok := lw_ok_in (lw_g4 (List.mem_of_getElem? (i := 29) rfl)) rfl
theorem vk_X2_quickestWay : vv_vok yX2_quickestWay := ⟨vi_X2_quickestWay, vs_X2_quickestWay⟩
theorem cd_X2_wayCount : Cond.code yX2_wayCount cX2_wayCount 3 (some .int) ∈ lw_ok := lw_ok_in (lw_g4 (List.mem_of_getElem? (i := 34) rfl)) rfl
theorem yk_X2_wayCount : vv_yok yX2_wayCount cX2_wayCount 3 (some .int) 0 := ⟨cd_X2_wayCount, in_X2, by decide +kernel⟩
theorem vi_X2_wayCount : Cond.instanceMethod yX2_wayCount ∈ lw_ok := lw_ok_in (lw_g4 (List.mem_of_getElem? (i := 33) rfl)) rfl
theorem vs_X2_wayCount : Cond.selects yX2_wayCount.cls yX2_wayCount yX2_wayCount ∈ lw_ok := lw_ok_in (lw_g0 (List.mem_of_getElem? (i := 15) rfl)) rfl
theorem vk_X2_wayCount : vv_vok yX2_wayCount := ⟨vi_X2_wayCount, vs_X2_wayCount⟩
theorem cd_X2_whoDoes : Cond.code yX2_whoDoes cX2_whoDoes 5 (some .int) ∈ lw_ok := lw_ok_in (lw_g4 (List.mem_of_getElem? (i := 42) rfl)) rfl
theorem yk_X2_whoDoes : vv_yok yX2_whoDoes cX2_whoDoes 5 (some .int) 2 := ⟨cd_X2_whoDoes, in_X2, by decide +kernel⟩
theorem vi_X2_whoDoes : Cond.instanceMethod yX2_whoDoes ∈ lw_ok := lw_ok_in (lw_g4 (List.mem_of_getElem? (i := 40) rfl)) rfl
theorem vs_X2_whoDoes : Cond.selects yX2_whoDoes.cls yX2_whoDoes yX2_whoDoes ∈ lw_ok := lw_ok_in (lw_g4 (List.mem_of_getElem? (i := 41) rfl)) rfl
theorem vk_X2_whoDoes : vv_vok yX2_whoDoes := ⟨vi_X2_whoDoes, vs_X2_whoDoes⟩
theorem cd_X2_minutesBy : Cond.code yX2_minutesBy cX2_minutesBy 6 (some .int) ∈ lw_ok := lw_ok_in (lw_g4 (List.mem_of_getElem? (i := 38) rfl)) rfl
theorem yk_X2_minutesBy : vv_yok yX2_minutesBy cX2_minutesBy 6 (some .int) 1 := ⟨cd_X2_minutesBy, in_X2, by decide +kernel⟩
theorem vi_X2_minutesBy : Cond.instanceMethod yX2_minutesBy ∈ lw_ok := lw_ok_in (lw_g4 (List.mem_of_getElem? (i := 36) rfl)) rfl
theorem vs_X2_minutesBy : Cond.selects yX2_minutesBy.cls yX2_minutesBy yX2_minutesBy ∈ lw_ok := lw_ok_in (lw_g4 (List.mem_of_getElem? (i := 37) rfl)) rfl
theorem vk_X2_minutesBy : vv_vok yX2_minutesBy := ⟨vi_X2_minutesBy, vs_X2_minutesBy⟩
theorem cd_X2_minutesFor : Cond.code yX2_minutesFor cX2_minutesFor 4 (some .int) ∈ lw_ok := lw_ok_in (lw_g4 (List.mem_of_getElem? (i := 46) rfl)) rfl
theorem yk_X2_minutesFor : vv_yok yX2_minutesFor cX2_minutesFor 4 (some .int) 2 := ⟨cd_X2_minutesFor, in_X2, by decide +kernel⟩
theorem vi_X2_minutesFor : Cond.instanceMethod yX2_minutesFor ∈ lw_ok := lw_ok_in (lw_g4 (List.mem_of_getElem? (i := 45) rfl)) rfl
theorem vs_X2_minutesFor : Cond.selects yX2_minutesFor.cls yX2_minutesFor yX2_minutesFor ∈ lw_ok := lw_ok_in (lw_g0 (List.mem_of_getElem? (i := 16) rfl)) rfl
theorem vk_X2_minutesFor : vv_vok yX2_minutesFor := ⟨vi_X2_minutesFor, vs_X2_minutesFor⟩
theorem cd_X3_init : Cond.code yX3_init cX3_init 2 none ∈ lw_ok := lw_ok_in (lw_g1 (List.mem_of_getElem? (i := 140) rfl)) rfl
theorem yk_X3_init : vv_yok yX3_init cX3_init 2 none 1 := ⟨cd_X3_init, in_X3, by decide +kernel⟩
theorem cd_X3_startAnew : Cond.code yX3_startAnew cX3_startAnew 2 none ∈ lw_ok := lw_ok_in (lw_g2 (List.mem_of_getElem? (i := 162) rfl)) rfl
theorem yk_X3_startAnew : vv_yok yX3_startAnew cX3_startAnew 2 none 0 := ⟨cd_X3_startAnew, in_X3, by decide +kernel⟩
theorem vi_X3_startAnew : Cond.instanceMethod yX3_startAnew ∈ lw_ok := lw_ok_in (lw_g2 (List.mem_of_getElem? (i := 160) rfl)) rfl
theorem vs_X3_startAnew : Cond.selects yX3_startAnew.cls yX3_startAnew yX3_startAnew ∈ lw_ok := lw_ok_in (lw_g2 (List.mem_of_getElem? (i := 161) rfl)) rfl
theorem vk_X3_startAnew : vv_vok yX3_startAnew := ⟨vi_X3_startAnew, vs_X3_startAnew⟩
theorem cd_X3_copyFrom : Cond.code yX3_copyFrom cX3_copyFrom 3 none ∈ lw_ok := lw_ok_in (lw_g3 (List.mem_of_getElem? (i := 183) rfl)) rfl
theorem yk_X3_copyFrom : vv_yok yX3_copyFrom cX3_copyFrom 3 none 1 := ⟨cd_X3_copyFrom, in_X3, by decide +kernel⟩
theorem vi_X3_copyFrom : Cond.instanceMethod yX3_copyFrom ∈ lw_ok := lw_ok_in (lw_g3 (List.mem_of_getElem? (i := 181) rfl)) rfl
theorem vs_X3_copyFrom : Cond.selects yX3_copyFrom.cls yX3_copyFrom yX3_copyFrom ∈ lw_ok := lw_ok_in (lw_g3 (List.mem_of_getElem? (i := 182) rfl)) rfl
theorem vk_X3_copyFrom : vv_vok yX3_copyFrom := ⟨vi_X3_copyFrom, vs_X3_copyFrom⟩
theorem cd_X3_survey : Cond.code yX3_survey cX3_survey 2 none ∈ lw_ok := lw_ok_in (lw_g2 (List.mem_of_getElem? (i := 174) rfl)) rfl
theorem yk_X3_survey : vv_yok yX3_survey cX3_survey 2 none 0 := ⟨cd_X3_survey, in_X3, by decide +kernel⟩
theorem vi_X3_survey : Cond.instanceMethod yX3_survey ∈ lw_ok := lw_ok_in (lw_g2 (List.mem_of_getElem? (i := 173) rfl)) rfl
theorem vs_X3_survey : Cond.selects yX3_survey.cls yX3_survey yX3_survey ∈ lw_ok := lw_ok_in (lw_g0 (List.mem_of_getElem? (i := 9) rfl)) rfl
theorem vk_X3_survey : vv_vok yX3_survey := ⟨vi_X3_survey, vs_X3_survey⟩
theorem cd_X3_oneMinute : Cond.code yX3_oneMinute cX3_oneMinute 4 none ∈ lw_ok := lw_ok_in (lw_g3 (List.mem_of_getElem? (i := 139) rfl)) rfl
theorem yk_X3_oneMinute : vv_yok yX3_oneMinute cX3_oneMinute 4 none 1 := ⟨cd_X3_oneMinute, in_X3, by decide +kernel⟩
theorem vi_X3_oneMinute : Cond.instanceMethod yX3_oneMinute ∈ lw_ok := lw_ok_in (lw_g3 (List.mem_of_getElem? (i := 137) rfl)) rfl
theorem vs_X3_oneMinute : Cond.selects yX3_oneMinute.cls yX3_oneMinute yX3_oneMinute ∈ lw_ok := lw_ok_in (lw_g3 (List.mem_of_getElem? (i := 138) rfl)) rfl
theorem vk_X3_oneMinute : vv_vok yX3_oneMinute := ⟨vi_X3_oneMinute, vs_X3_oneMinute⟩
theorem cd_X3_wears : Cond.code yX3_wears cX3_wears 3 (some .boolean) ∈ lw_ok := lw_ok_in (lw_g3 (List.mem_of_getElem? (i := 148) rfl)) rfl
theorem yk_X3_wears : vv_yok yX3_wears cX3_wears 3 (some .boolean) 1 := ⟨cd_X3_wears, in_X3, by decide +kernel⟩
theorem vi_X3_wears : Cond.instanceMethod yX3_wears ∈ lw_ok := lw_ok_in (lw_g3 (List.mem_of_getElem? (i := 147) rfl)) rfl
theorem vs_X3_wears : Cond.selects yX3_wears.cls yX3_wears yX3_wears ∈ lw_ok := lw_ok_in (lw_g0 (List.mem_of_getElem? (i := 11) rfl)) rfl
theorem vk_X3_wears : vv_vok yX3_wears := ⟨vi_X3_wears, vs_X3_wears⟩
theorem cd_X3_letPass : Cond.code yX3_letPass cX3_letPass 4 none ∈ lw_ok := lw_ok_in (lw_g3 (List.mem_of_getElem? (i := 135) rfl)) rfl
theorem yk_X3_letPass : vv_yok yX3_letPass cX3_letPass 4 none 2 := ⟨cd_X3_letPass, in_X3, by decide +kernel⟩
theorem vi_X3_letPass : Cond.instanceMethod yX3_letPass ∈ lw_ok := lw_ok_in (lw_g3 (List.mem_of_getElem? (i := 133) rfl)) rfl
theorem vs_X3_letPass : Cond.selects yX3_letPass.cls yX3_letPass yX3_letPass ∈ lw_ok := lw_ok_in (lw_g3 (List.mem_of_getElem? (i := 134) rfl)) rfl
theorem vk_X3_letPass : vv_vok yX3_letPass := ⟨vi_X3_letPass, vs_X3_letPass⟩
theorem cd_X3_passTillOver : Cond.code yX3_passTillOver cX3_passTillOver 2 (some .int) ∈ lw_ok := lw_ok_in (lw_g3 (List.mem_of_getElem? (i := 195) rfl)) rfl
theorem yk_X3_passTillOver : vv_yok yX3_passTillOver cX3_passTillOver 2 (some .int) 0 := ⟨cd_X3_passTillOver, in_X3, by decide +kernel⟩
theorem vi_X3_passTillOver : Cond.instanceMethod yX3_passTillOver ∈ lw_ok := lw_ok_in (lw_g3 (List.mem_of_getElem? (i := 193) rfl)) rfl
theorem vs_X3_passTillOver : Cond.selects yX3_passTillOver.cls yX3_passTillOver yX3_passTillOver ∈ lw_ok := lw_ok_in (lw_g3 (List.mem_of_getElem? (i := 194) rfl)) rfl
theorem vk_X3_passTillOver : vv_vok yX3_passTillOver := ⟨vi_X3_passTillOver, vs_X3_passTillOver⟩
theorem cd_X3_passTillBreach : Cond.code yX3_passTillBreach cX3_passTillBreach 2 (some .int) ∈ lw_ok := lw_ok_in (lw_g3 (List.mem_of_getElem? (i := 207) rfl)) rfl
theorem yk_X3_passTillBreach : vv_yok yX3_passTillBreach cX3_passTillBreach 2 (some .int) 0 := ⟨cd_X3_passTillBreach, in_X3, by decide +kernel⟩
theorem vi_X3_passTillBreach : Cond.instanceMethod yX3_passTillBreach ∈ lw_ok := lw_ok_in (lw_g3 (List.mem_of_getElem? (i := 205) rfl)) rfl
theorem vs_X3_passTillBreach : Cond.selects yX3_passTillBreach.cls yX3_passTillBreach yX3_passTillBreach ∈ lw_ok := lw_ok_in (lw_g3 (List.mem_of_getElem? (i := 206) rfl)) rfl
theorem vk_X3_passTillBreach : vv_vok yX3_passTillBreach := ⟨vi_X3_passTillBreach, vs_X3_passTillBreach⟩
theorem cd_X3_canRaise : Cond.code yX3_canRaise cX3_canRaise 3 (some .boolean) ∈ lw_ok := lw_ok_in (lw_g3 (List.mem_of_getElem? (i := 97) rfl)) rfl
theorem yk_X3_canRaise : vv_yok yX3_canRaise cX3_canRaise 3 (some .boolean) 2 := ⟨cd_X3_canRaise, in_X3, by decide +kernel⟩
theorem vi_X3_canRaise : Cond.instanceMethod yX3_canRaise ∈ lw_ok := lw_ok_in (lw_g3 (List.mem_of_getElem? (i := 95) rfl)) rfl
theorem vs_X3_canRaise : Cond.selects yX3_canRaise.cls yX3_canRaise yX3_canRaise ∈ lw_ok := lw_ok_in (lw_g3 (List.mem_of_getElem? (i := 96) rfl)) rfl
theorem vk_X3_canRaise : vv_vok yX3_canRaise := ⟨vi_X3_canRaise, vs_X3_canRaise⟩
theorem cd_X3_canDig : Cond.code yX3_canDig cX3_canDig 3 (some .boolean) ∈ lw_ok := lw_ok_in (lw_g3 (List.mem_of_getElem? (i := 118) rfl)) rfl
theorem yk_X3_canDig : vv_yok yX3_canDig cX3_canDig 3 (some .boolean) 2 := ⟨cd_X3_canDig, in_X3, by decide +kernel⟩
theorem vi_X3_canDig : Cond.instanceMethod yX3_canDig ∈ lw_ok := lw_ok_in (lw_g3 (List.mem_of_getElem? (i := 116) rfl)) rfl
theorem vs_X3_canDig : Cond.selects yX3_canDig.cls yX3_canDig yX3_canDig ∈ lw_ok := lw_ok_in (lw_g3 (List.mem_of_getElem? (i := 117) rfl)) rfl
theorem vk_X3_canDig : vv_vok yX3_canDig := ⟨vi_X3_canDig, vs_X3_canDig⟩
theorem cd_X3_canPass : Cond.code yX3_canPass cX3_canPass 2 (some .boolean) ∈ lw_ok := lw_ok_in (lw_g3 (List.mem_of_getElem? (i := 131) rfl)) rfl
theorem yk_X3_canPass : vv_yok yX3_canPass cX3_canPass 2 (some .boolean) 1 := ⟨cd_X3_canPass, in_X3, by decide +kernel⟩
theorem vi_X3_canPass : Cond.instanceMethod yX3_canPass ∈ lw_ok := lw_ok_in (lw_g3 (List.mem_of_getElem? (i := 129) rfl)) rfl
theorem vs_X3_canPass : Cond.selects yX3_canPass.cls yX3_canPass yX3_canPass ∈ lw_ok := lw_ok_in (lw_g3 (List.mem_of_getElem? (i := 130) rfl)) rfl
theorem vk_X3_canPass : vv_vok yX3_canPass := ⟨vi_X3_canPass, vs_X3_canPass⟩
theorem cd_X3_layAt : Cond.code yX3_layAt cX3_layAt 4 none ∈ lw_ok := lw_ok_in (lw_g3 (List.mem_of_getElem? (i := 106) rfl)) rfl
theorem yk_X3_layAt : vv_yok yX3_layAt cX3_layAt 4 none 3 := ⟨cd_X3_layAt, in_X3, by decide +kernel⟩
theorem vi_X3_layAt : Cond.instanceMethod yX3_layAt ∈ lw_ok := lw_ok_in (lw_g3 (List.mem_of_getElem? (i := 104) rfl)) rfl
theorem vs_X3_layAt : Cond.selects yX3_layAt.cls yX3_layAt yX3_layAt ∈ lw_ok := lw_ok_in (lw_g3 (List.mem_of_getElem? (i := 105) rfl)) rfl
theorem vk_X3_layAt : vv_vok yX3_layAt := ⟨vi_X3_layAt, vs_X3_layAt⟩
theorem cd_X3_digAt : Cond.code yX3_digAt cX3_digAt 3 none ∈ lw_ok := lw_ok_in (lw_g3 (List.mem_of_getElem? (i := 122) rfl)) rfl
theorem yk_X3_digAt : vv_yok yX3_digAt cX3_digAt 3 none 2 := ⟨cd_X3_digAt, in_X3, by decide +kernel⟩
theorem vi_X3_digAt : Cond.instanceMethod yX3_digAt ∈ lw_ok := lw_ok_in (lw_g3 (List.mem_of_getElem? (i := 120) rfl)) rfl
theorem vs_X3_digAt : Cond.selects yX3_digAt.cls yX3_digAt yX3_digAt ∈ lw_ok := lw_ok_in (lw_g3 (List.mem_of_getElem? (i := 121) rfl)) rfl
theorem vk_X3_digAt : vv_vok yX3_digAt := ⟨vi_X3_digAt, vs_X3_digAt⟩
theorem cd_X3_remake : Cond.code yX3_remake cX3_remake 4 none ∈ lw_ok := lw_ok_in (lw_g3 (List.mem_of_getElem? (i := 110) rfl)) rfl
theorem yk_X3_remake : vv_yok yX3_remake cX3_remake 4 none 3 := ⟨cd_X3_remake, in_X3, by decide +kernel⟩
theorem vi_X3_remake : Cond.instanceMethod yX3_remake ∈ lw_ok := lw_ok_in (lw_g3 (List.mem_of_getElem? (i := 108) rfl)) rfl
theorem vs_X3_remake : Cond.selects yX3_remake.cls yX3_remake yX3_remake ∈ lw_ok := lw_ok_in (lw_g3 (List.mem_of_getElem? (i := 109) rfl)) rfl
theorem vk_X3_remake : vv_vok yX3_remake := ⟨vi_X3_remake, vs_X3_remake⟩
theorem cd_X3_empty : Cond.code yX3_empty cX3_empty 1 none ∈ lw_ok := lw_ok_in (lw_g4 (List.mem_of_getElem? (i := 66) rfl)) rfl
theorem yk_X3_empty : vv_yok yX3_empty cX3_empty 1 none 0 := ⟨cd_X3_empty, in_X3, by decide +kernel⟩
theorem vi_X3_empty : Cond.instanceMethod yX3_empty ∈ lw_ok := lw_ok_in (lw_g4 (List.mem_of_getElem? (i := 64) rfl)) rfl
theorem vs_X3_empty : Cond.selects yX3_empty.cls yX3_empty yX3_empty ∈ lw_ok := lw_ok_in (lw_g4 (List.mem_of_getElem? (i := 65) rfl)) rfl
theorem vk_X3_empty : vv_vok yX3_empty := ⟨vi_X3_empty, vs_X3_empty⟩
theorem cd_X3_heightAt : Cond.code yX3_heightAt cX3_heightAt 2 (some .int) ∈ lw_ok := lw_ok_in (lw_g3 (List.mem_of_getElem? (i := 26) rfl)) rfl
theorem yk_X3_heightAt : vv_yok yX3_heightAt cX3_heightAt 2 (some .int) 1 := ⟨cd_X3_heightAt, in_X3, by decide +kernel⟩
theorem vi_X3_heightAt : Cond.instanceMethod yX3_heightAt ∈ lw_ok := lw_ok_in (lw_g3 (List.mem_of_getElem? (i := 24) rfl)) rfl
theorem vs_X3_heightAt : Cond.selects yX3_heightAt.cls yX3_heightAt yX3_heightAt ∈ lw_ok := lw_ok_in (lw_g3 (List.mem_of_getElem? (i := 25) rfl)) rfl
theorem vk_X3_heightAt : vv_vok yX3_heightAt := ⟨vi_X3_heightAt, vs_X3_heightAt⟩
theorem cd_X3_stuffAt : Cond.code yX3_stuffAt cX3_stuffAt 2 (some .int) ∈ lw_ok := lw_ok_in (lw_g3 (List.mem_of_getElem? (i := 30) rfl)) rfl
theorem yk_X3_stuffAt : vv_yok yX3_stuffAt cX3_stuffAt 2 (some .int) 1 := ⟨cd_X3_stuffAt, in_X3, by decide +kernel⟩
theorem vi_X3_stuffAt : Cond.instanceMethod yX3_stuffAt ∈ lw_ok := lw_ok_in (lw_g3 (List.mem_of_getElem? (i := 28) rfl)) rfl
theorem vs_X3_stuffAt : Cond.selects yX3_stuffAt.cls yX3_stuffAt yX3_stuffAt ∈ lw_ok := lw_ok_in (lw_g3 (List.mem_of_getElem? (i := 29) rfl)) rfl
theorem vk_X3_stuffAt : vv_vok yX3_stuffAt := ⟨vi_X3_stuffAt, vs_X3_stuffAt⟩
theorem cd_X3_breachesAt : Cond.code yX3_breachesAt cX3_breachesAt 2 (some .int) ∈ lw_ok := lw_ok_in (lw_g3 (List.mem_of_getElem? (i := 34) rfl)) rfl
theorem yk_X3_breachesAt : vv_yok yX3_breachesAt cX3_breachesAt 2 (some .int) 1 := ⟨cd_X3_breachesAt, in_X3, by decide +kernel⟩
theorem vi_X3_breachesAt : Cond.instanceMethod yX3_breachesAt ∈ lw_ok := lw_ok_in (lw_g3 (List.mem_of_getElem? (i := 32) rfl)) rfl
theorem vs_X3_breachesAt : Cond.selects yX3_breachesAt.cls yX3_breachesAt yX3_breachesAt ∈ lw_ok := lw_ok_in (lw_g3 (List.mem_of_getElem? (i := 33) rfl)) rfl
theorem vk_X3_breachesAt : vv_vok yX3_breachesAt := ⟨vi_X3_breachesAt, vs_X3_breachesAt⟩
theorem cd_X3_allBreaches : Cond.code yX3_allBreaches cX3_allBreaches 3 (some .int) ∈ lw_ok := lw_ok_in (lw_g4 (List.mem_of_getElem? (i := 82) rfl)) rfl
theorem yk_X3_allBreaches : vv_yok yX3_allBreaches cX3_allBreaches 3 (some .int) 0 := ⟨cd_X3_allBreaches, in_X3, by decide +kernel⟩
theorem vi_X3_allBreaches : Cond.instanceMethod yX3_allBreaches ∈ lw_ok := lw_ok_in (lw_g4 (List.mem_of_getElem? (i := 80) rfl)) rfl
theorem vs_X3_allBreaches : Cond.selects yX3_allBreaches.cls yX3_allBreaches yX3_allBreaches ∈ lw_ok := lw_ok_in (lw_g4 (List.mem_of_getElem? (i := 81) rfl)) rfl
theorem vk_X3_allBreaches : vv_vok yX3_allBreaches := ⟨vi_X3_allBreaches, vs_X3_allBreaches⟩
theorem cd_X3_wasBreached : Cond.code yX3_wasBreached cX3_wasBreached 1 (some .boolean) ∈ lw_ok := lw_ok_in (lw_g4 (List.mem_of_getElem? (i := 78) rfl)) rfl
theorem yk_X3_wasBreached : vv_yok yX3_wasBreached cX3_wasBreached 1 (some .boolean) 0 := ⟨cd_X3_wasBreached, in_X3, by decide +kernel⟩
theorem vi_X3_wasBreached : Cond.instanceMethod yX3_wasBreached ∈ lw_ok := lw_ok_in (lw_g4 (List.mem_of_getElem? (i := 76) rfl)) rfl
theorem vs_X3_wasBreached : Cond.selects yX3_wasBreached.cls yX3_wasBreached yX3_wasBreached ∈ lw_ok := lw_ok_in (lw_g4 (List.mem_of_getElem? (i := 77) rfl)) rfl
theorem vk_X3_wasBreached : vv_vok yX3_wasBreached := ⟨vi_X3_wasBreached, vs_X3_wasBreached⟩
theorem cd_X3_level : Cond.code yX3_level cX3_level 1 (some .int) ∈ lw_ok := lw_ok_in (lw_g3 (List.mem_of_getElem? (i := 42) rfl)) rfl
theorem yk_X3_level : vv_yok yX3_level cX3_level 1 (some .int) 0 := ⟨cd_X3_level, in_X3, by decide +kernel⟩
theorem vi_X3_level : Cond.instanceMethod yX3_level ∈ lw_ok := lw_ok_in (lw_g3 (List.mem_of_getElem? (i := 40) rfl)) rfl
theorem vs_X3_level : Cond.selects yX3_level.cls yX3_level yX3_level ∈ lw_ok := lw_ok_in (lw_g3 (List.mem_of_getElem? (i := 41) rfl)) rfl
theorem vk_X3_level : vv_vok yX3_level := ⟨vi_X3_level, vs_X3_level⟩
theorem cd_X3_units : Cond.code yX3_units cX3_units 1 (some .int) ∈ lw_ok := lw_ok_in (lw_g3 (List.mem_of_getElem? (i := 51) rfl)) rfl
theorem yk_X3_units : vv_yok yX3_units cX3_units 1 (some .int) 0 := ⟨cd_X3_units, in_X3, by decide +kernel⟩
theorem vi_X3_units : Cond.instanceMethod yX3_units ∈ lw_ok := lw_ok_in (lw_g3 (List.mem_of_getElem? (i := 49) rfl)) rfl
theorem vs_X3_units : Cond.selects yX3_units.cls yX3_units yX3_units ∈ lw_ok := lw_ok_in (lw_g3 (List.mem_of_getElem? (i := 50) rfl)) rfl
theorem vk_X3_units : vv_vok yX3_units := ⟨vi_X3_units, vs_X3_units⟩
theorem cd_X3_minutesGone : Cond.code yX3_minutesGone cX3_minutesGone 1 (some .int) ∈ lw_ok := lw_ok_in (lw_g3 (List.mem_of_getElem? (i := 55) rfl)) rfl
theorem yk_X3_minutesGone : vv_yok yX3_minutesGone cX3_minutesGone 1 (some .int) 0 := ⟨cd_X3_minutesGone, in_X3, by decide +kernel⟩
theorem vi_X3_minutesGone : Cond.instanceMethod yX3_minutesGone ∈ lw_ok := lw_ok_in (lw_g3 (List.mem_of_getElem? (i := 53) rfl)) rfl
theorem vs_X3_minutesGone : Cond.selects yX3_minutesGone.cls yX3_minutesGone yX3_minutesGone ∈ lw_ok := lw_ok_in (lw_g3 (List.mem_of_getElem? (i := 54) rfl)) rfl
theorem vk_X3_minutesGone : vv_vok yX3_minutesGone := ⟨vi_X3_minutesGone, vs_X3_minutesGone⟩
theorem cd_X3_allOver : Cond.code yX3_allOver cX3_allOver 1 (some .int) ∈ lw_ok := lw_ok_in (lw_g3 (List.mem_of_getElem? (i := 59) rfl)) rfl
theorem yk_X3_allOver : vv_yok yX3_allOver cX3_allOver 1 (some .int) 0 := ⟨cd_X3_allOver, in_X3, by decide +kernel⟩
theorem vi_X3_allOver : Cond.instanceMethod yX3_allOver ∈ lw_ok := lw_ok_in (lw_g3 (List.mem_of_getElem? (i := 57) rfl)) rfl
theorem vs_X3_allOver : Cond.selects yX3_allOver.cls yX3_allOver yX3_allOver ∈ lw_ok := lw_ok_in (lw_g3 (List.mem_of_getElem? (i := 58) rfl)) rfl
theorem vk_X3_allOver : vv_vok yX3_allOver := ⟨vi_X3_allOver, vs_X3_allOver⟩
theorem cd_X3_allSeeped : Cond.code yX3_allSeeped cX3_allSeeped 1 (some .int) ∈ lw_ok := lw_ok_in (lw_g3 (List.mem_of_getElem? (i := 63) rfl)) rfl
theorem yk_X3_allSeeped : vv_yok yX3_allSeeped cX3_allSeeped 1 (some .int) 0 := ⟨cd_X3_allSeeped, in_X3, by decide +kernel⟩
theorem vi_X3_allSeeped : Cond.instanceMethod yX3_allSeeped ∈ lw_ok := lw_ok_in (lw_g3 (List.mem_of_getElem? (i := 61) rfl)) rfl
theorem vs_X3_allSeeped : Cond.selects yX3_allSeeped.cls yX3_allSeeped yX3_allSeeped ∈ lw_ok := lw_ok_in (lw_g3 (List.mem_of_getElem? (i := 62) rfl)) rfl
theorem vk_X3_allSeeped : vv_vok yX3_allSeeped := ⟨vi_X3_allSeeped, vs_X3_allSeeped⟩
theorem cd_X3_edgeHeight : Cond.code yX3_edgeHeight cX3_edgeHeight 1 (some .int) ∈ lw_ok := lw_ok_in (lw_g3 (List.mem_of_getElem? (i := 71) rfl)) rfl
theorem yk_X3_edgeHeight : vv_yok yX3_edgeHeight cX3_edgeHeight 1 (some .int) 0 := ⟨cd_X3_edgeHeight, in_X3, by decide +kernel⟩
theorem vi_X3_edgeHeight : Cond.instanceMethod yX3_edgeHeight ∈ lw_ok := lw_ok_in (lw_g3 (List.mem_of_getElem? (i := 69) rfl)) rfl
theorem vs_X3_edgeHeight : Cond.selects yX3_edgeHeight.cls yX3_edgeHeight yX3_edgeHeight ∈ lw_ok := lw_ok_in (lw_g3 (List.mem_of_getElem? (i := 70) rfl)) rfl
theorem vk_X3_edgeHeight : vv_vok yX3_edgeHeight := ⟨vi_X3_edgeHeight, vs_X3_edgeHeight⟩
theorem cd_X3_lowestPlace : Cond.code yX3_lowestPlace cX3_lowestPlace 1 (some .int) ∈ lw_ok := lw_ok_in (lw_g3 (List.mem_of_getElem? (i := 75) rfl)) rfl
theorem yk_X3_lowestPlace : vv_yok yX3_lowestPlace cX3_lowestPlace 1 (some .int) 0 := ⟨cd_X3_lowestPlace, in_X3, by decide +kernel⟩
theorem vi_X3_lowestPlace : Cond.instanceMethod yX3_lowestPlace ∈ lw_ok := lw_ok_in (lw_g3 (List.mem_of_getElem? (i := 73) rfl)) rfl
theorem vs_X3_lowestPlace : Cond.selects yX3_lowestPlace.cls yX3_lowestPlace yX3_lowestPlace ∈ lw_ok := lw_ok_in (lw_g3 (List.mem_of_getElem? (i := 74) rfl)) rfl
theorem vk_X3_lowestPlace : vv_vok yX3_lowestPlace := ⟨vi_X3_lowestPlace, vs_X3_lowestPlace⟩
theorem cd_X3_overInMinute : Cond.code yX3_overInMinute cX3_overInMinute 1 (some .int) ∈ lw_ok := lw_ok_in (lw_g4 (List.mem_of_getElem? (i := 14) rfl)) rfl
theorem yk_X3_overInMinute : vv_yok yX3_overInMinute cX3_overInMinute 1 (some .int) 0 := ⟨cd_X3_overInMinute, in_X3, by decide +kernel⟩
theorem vi_X3_overInMinute : Cond.instanceMethod yX3_overInMinute ∈ lw_ok := lw_ok_in (lw_g4 (List.mem_of_getElem? (i := 12) rfl)) rfl
theorem vs_X3_overInMinute : Cond.selects yX3_overInMinute.cls yX3_overInMinute yX3_overInMinute ∈ lw_ok := lw_ok_in (lw_g4 (List.mem_of_getElem? (i := 13) rfl)) rfl
theorem vk_X3_overInMinute : vv_vok yX3_overInMinute := ⟨vi_X3_overInMinute, vs_X3_overInMinute⟩
theorem cd_X3_placeOver : Cond.code yX3_placeOver cX3_placeOver 1 (some .int) ∈ lw_ok := lw_ok_in (lw_g3 (List.mem_of_getElem? (i := 199) rfl)) rfl
theorem yk_X3_placeOver : vv_yok yX3_placeOver cX3_placeOver 1 (some .int) 0 := ⟨cd_X3_placeOver, in_X3, by decide +kernel⟩
theorem vi_X3_placeOver : Cond.instanceMethod yX3_placeOver ∈ lw_ok := lw_ok_in (lw_g3 (List.mem_of_getElem? (i := 197) rfl)) rfl
theorem vs_X3_placeOver : Cond.selects yX3_placeOver.cls yX3_placeOver yX3_placeOver ∈ lw_ok := lw_ok_in (lw_g3 (List.mem_of_getElem? (i := 198) rfl)) rfl
theorem vk_X3_placeOver : vv_vok yX3_placeOver := ⟨vi_X3_placeOver, vs_X3_placeOver⟩
theorem cd_X3_breachedCell : Cond.code yX3_breachedCell cX3_breachedCell 1 (some .int) ∈ lw_ok := lw_ok_in (lw_g3 (List.mem_of_getElem? (i := 211) rfl)) rfl
theorem yk_X3_breachedCell : vv_yok yX3_breachedCell cX3_breachedCell 1 (some .int) 0 := ⟨cd_X3_breachedCell, in_X3, by decide +kernel⟩
theorem vi_X3_breachedCell : Cond.instanceMethod yX3_breachedCell ∈ lw_ok := lw_ok_in (lw_g3 (List.mem_of_getElem? (i := 209) rfl)) rfl
theorem vs_X3_breachedCell : Cond.selects yX3_breachedCell.cls yX3_breachedCell yX3_breachedCell ∈ lw_ok := lw_ok_in (lw_g3 (List.mem_of_getElem? (i := 210) rfl)) rfl
theorem vk_X3_breachedCell : vv_vok yX3_breachedCell := ⟨vi_X3_breachedCell, vs_X3_breachedCell⟩
theorem cd_X4_init : Cond.code yX4_init cX4_init 1 none ∈ lw_ok := lw_ok_in (lw_g1 (List.mem_of_getElem? (i := 48) rfl)) rfl
theorem yk_X4_init : vv_yok yX4_init cX4_init 1 none 0 := ⟨cd_X4_init, in_X4, by decide +kernel⟩
theorem cd_X4_readFrom : Cond.code yX4_readFrom cX4_readFrom 5 (some .int) ∈ lw_ok := lw_ok_in (lw_g2 (List.mem_of_getElem? (i := 59) rfl)) rfl
theorem yk_X4_readFrom : vv_yok yX4_readFrom cX4_readFrom 5 (some .int) 1 := ⟨cd_X4_readFrom, in_X4, by decide +kernel⟩
theorem vi_X4_readFrom : Cond.instanceMethod yX4_readFrom ∈ lw_ok := lw_ok_in (lw_g2 (List.mem_of_getElem? (i := 57) rfl)) rfl
theorem vs_X4_readFrom : Cond.selects yX4_readFrom.cls yX4_readFrom yX4_readFrom ∈ lw_ok := lw_ok_in (lw_g2 (List.mem_of_getElem? (i := 58) rfl)) rfl
theorem vk_X4_readFrom : vv_vok yX4_readFrom := ⟨vi_X4_readFrom, vs_X4_readFrom⟩
theorem cd_X4_clear : Cond.code yX4_clear cX4_clear 1 none ∈ lw_ok := lw_ok_in (lw_g2 (List.mem_of_getElem? (i := 63) rfl)) rfl
theorem yk_X4_clear : vv_yok yX4_clear cX4_clear 1 none 0 := ⟨cd_X4_clear, in_X4, by decide +kernel⟩
theorem vi_X4_clear : Cond.instanceMethod yX4_clear ∈ lw_ok := lw_ok_in (lw_g2 (List.mem_of_getElem? (i := 62) rfl)) rfl
theorem vs_X4_clear : Cond.selects yX4_clear.cls yX4_clear yX4_clear ∈ lw_ok := lw_ok_in (lw_g0 (List.mem_of_getElem? (i := 0) rfl)) rfl
theorem vk_X4_clear : vv_vok yX4_clear := ⟨vi_X4_clear, vs_X4_clear⟩
theorem cd_X4_takeItem : Cond.code yX4_takeItem cX4_takeItem 7 (some .boolean) ∈ lw_ok := lw_ok_in (lw_g2 (List.mem_of_getElem? (i := 96) rfl)) rfl
theorem yk_X4_takeItem : vv_yok yX4_takeItem cX4_takeItem 7 (some .boolean) 2 := ⟨cd_X4_takeItem, in_X4, by decide +kernel⟩
theorem vi_X4_takeItem : Cond.instanceMethod yX4_takeItem ∈ lw_ok := lw_ok_in (lw_g2 (List.mem_of_getElem? (i := 95) rfl)) rfl
theorem vs_X4_takeItem : Cond.selects yX4_takeItem.cls yX4_takeItem yX4_takeItem ∈ lw_ok := lw_ok_in (lw_g0 (List.mem_of_getElem? (i := 3) rfl)) rfl
theorem vk_X4_takeItem : vv_vok yX4_takeItem := ⟨vi_X4_takeItem, vs_X4_takeItem⟩
theorem cd_X4_addCell : Cond.code yX4_addCell cX4_addCell 3 (some .boolean) ∈ lw_ok := lw_ok_in (lw_g2 (List.mem_of_getElem? (i := 108) rfl)) rfl
theorem yk_X4_addCell : vv_yok yX4_addCell cX4_addCell 3 (some .boolean) 2 := ⟨cd_X4_addCell, in_X4, by decide +kernel⟩
theorem vi_X4_addCell : Cond.instanceMethod yX4_addCell ∈ lw_ok := lw_ok_in (lw_g2 (List.mem_of_getElem? (i := 107) rfl)) rfl
theorem vs_X4_addCell : Cond.selects yX4_addCell.cls yX4_addCell yX4_addCell ∈ lw_ok := lw_ok_in (lw_g0 (List.mem_of_getElem? (i := 4) rfl)) rfl
theorem vk_X4_addCell : vv_vok yX4_addCell := ⟨vi_X4_addCell, vs_X4_addCell⟩
theorem cd_X4_setBanks : Cond.code yX4_setBanks cX4_setBanks 3 (some .boolean) ∈ lw_ok := lw_ok_in (lw_g2 (List.mem_of_getElem? (i := 118) rfl)) rfl
theorem yk_X4_setBanks : vv_yok yX4_setBanks cX4_setBanks 3 (some .boolean) 2 := ⟨cd_X4_setBanks, in_X4, by decide +kernel⟩
theorem vi_X4_setBanks : Cond.instanceMethod yX4_setBanks ∈ lw_ok := lw_ok_in (lw_g2 (List.mem_of_getElem? (i := 117) rfl)) rfl
theorem vs_X4_setBanks : Cond.selects yX4_setBanks.cls yX4_setBanks yX4_setBanks ∈ lw_ok := lw_ok_in (lw_g0 (List.mem_of_getElem? (i := 5) rfl)) rfl
theorem vk_X4_setBanks : vv_vok yX4_setBanks := ⟨vi_X4_setBanks, vs_X4_setBanks⟩
theorem cd_X4_setLake : Cond.code yX4_setLake cX4_setLake 3 (some .boolean) ∈ lw_ok := lw_ok_in (lw_g2 (List.mem_of_getElem? (i := 122) rfl)) rfl
theorem yk_X4_setLake : vv_yok yX4_setLake cX4_setLake 3 (some .boolean) 2 := ⟨cd_X4_setLake, in_X4, by decide +kernel⟩
theorem vi_X4_setLake : Cond.instanceMethod yX4_setLake ∈ lw_ok := lw_ok_in (lw_g2 (List.mem_of_getElem? (i := 121) rfl)) rfl
theorem vs_X4_setLake : Cond.selects yX4_setLake.cls yX4_setLake yX4_setLake ∈ lw_ok := lw_ok_in (lw_g0 (List.mem_of_getElem? (i := 6) rfl)) rfl
theorem vk_X4_setLake : vv_vok yX4_setLake := ⟨vi_X4_setLake, vs_X4_setLake⟩
theorem cd_X4_cellCount : Cond.code yX4_cellCount cX4_cellCount 1 (some .int) ∈ lw_ok := lw_ok_in (lw_g2 (List.mem_of_getElem? (i := 189) rfl)) rfl
theorem yk_X4_cellCount : vv_yok yX4_cellCount cX4_cellCount 1 (some .int) 0 := ⟨cd_X4_cellCount, in_X4, by decide +kernel⟩
theorem vi_X4_cellCount : Cond.instanceMethod yX4_cellCount ∈ lw_ok := lw_ok_in (lw_g2 (List.mem_of_getElem? (i := 187) rfl)) rfl
theorem vs_X4_cellCount : Cond.selects yX4_cellCount.cls yX4_cellCount yX4_cellCount ∈ lw_ok := lw_ok_in (lw_g2 (List.mem_of_getElem? (i := 188) rfl)) rfl
theorem vk_X4_cellCount : vv_vok yX4_cellCount := ⟨vi_X4_cellCount, vs_X4_cellCount⟩
theorem cd_X4_firstHeight : Cond.code yX4_firstHeight cX4_firstHeight 2 (some .int) ∈ lw_ok := lw_ok_in (lw_g2 (List.mem_of_getElem? (i := 166) rfl)) rfl
theorem yk_X4_firstHeight : vv_yok yX4_firstHeight cX4_firstHeight 2 (some .int) 1 := ⟨cd_X4_firstHeight, in_X4, by decide +kernel⟩
theorem vi_X4_firstHeight : Cond.instanceMethod yX4_firstHeight ∈ lw_ok := lw_ok_in (lw_g2 (List.mem_of_getElem? (i := 164) rfl)) rfl
theorem vs_X4_firstHeight : Cond.selects yX4_firstHeight.cls yX4_firstHeight yX4_firstHeight ∈ lw_ok := lw_ok_in (lw_g2 (List.mem_of_getElem? (i := 165) rfl)) rfl
theorem vk_X4_firstHeight : vv_vok yX4_firstHeight := ⟨vi_X4_firstHeight, vs_X4_firstHeight⟩
theorem cd_X4_firstStuff : Cond.code yX4_firstStuff cX4_firstStuff 2 (some .int) ∈ lw_ok := lw_ok_in (lw_g2 (List.mem_of_getElem? (i := 170) rfl)) rfl
theorem yk_X4_firstStuff : vv_yok yX4_firstStuff cX4_firstStuff 2 (some .int) 1 := ⟨cd_X4_firstStuff, in_X4, by decide +kernel⟩
theorem vi_X4_firstStuff : Cond.instanceMethod yX4_firstStuff ∈ lw_ok := lw_ok_in (lw_g2 (List.mem_of_getElem? (i := 168) rfl)) rfl
theorem vs_X4_firstStuff : Cond.selects yX4_firstStuff.cls yX4_firstStuff yX4_firstStuff ∈ lw_ok := lw_ok_in (lw_g2 (List.mem_of_getElem? (i := 169) rfl)) rfl
theorem vk_X4_firstStuff : vv_vok yX4_firstStuff := ⟨vi_X4_firstStuff, vs_X4_firstStuff⟩
theorem cd_X4_left : Cond.code yX4_left cX4_left 1 (some .int) ∈ lw_ok := lw_ok_in (lw_g2 (List.mem_of_getElem? (i := 178) rfl)) rfl
theorem yk_X4_left : vv_yok yX4_left cX4_left 1 (some .int) 0 := ⟨cd_X4_left, in_X4, by decide +kernel⟩
theorem vi_X4_left : Cond.instanceMethod yX4_left ∈ lw_ok := lw_ok_in (lw_g2 (List.mem_of_getElem? (i := 176) rfl)) rfl
theorem vs_X4_left : Cond.selects yX4_left.cls yX4_left yX4_left ∈ lw_ok := lw_ok_in (lw_g2 (List.mem_of_getElem? (i := 177) rfl)) rfl
theorem vk_X4_left : vv_vok yX4_left := ⟨vi_X4_left, vs_X4_left⟩
theorem cd_X4_right : Cond.code yX4_right cX4_right 1 (some .int) ∈ lw_ok := lw_ok_in (lw_g2 (List.mem_of_getElem? (i := 182) rfl)) rfl
theorem yk_X4_right : vv_yok yX4_right cX4_right 1 (some .int) 0 := ⟨cd_X4_right, in_X4, by decide +kernel⟩
theorem vi_X4_right : Cond.instanceMethod yX4_right ∈ lw_ok := lw_ok_in (lw_g2 (List.mem_of_getElem? (i := 180) rfl)) rfl
theorem vs_X4_right : Cond.selects yX4_right.cls yX4_right yX4_right ∈ lw_ok := lw_ok_in (lw_g2 (List.mem_of_getElem? (i := 181) rfl)) rfl
theorem vk_X4_right : vv_vok yX4_right := ⟨vi_X4_right, vs_X4_right⟩
theorem cd_X4_brook : Cond.code yX4_brook cX4_brook 1 (some (.object "DamOfTurf$Brook")) ∈ lw_ok := lw_ok_in (lw_g3 (List.mem_of_getElem? (i := 83) rfl)) rfl
theorem yk_X4_brook : vv_yok yX4_brook cX4_brook 1 (some (.object "DamOfTurf$Brook")) 0 := ⟨cd_X4_brook, in_X4, by decide +kernel⟩
theorem vi_X4_brook : Cond.instanceMethod yX4_brook ∈ lw_ok := lw_ok_in (lw_g3 (List.mem_of_getElem? (i := 81) rfl)) rfl
theorem vs_X4_brook : Cond.selects yX4_brook.cls yX4_brook yX4_brook ∈ lw_ok := lw_ok_in (lw_g3 (List.mem_of_getElem? (i := 82) rfl)) rfl
theorem vk_X4_brook : vv_vok yX4_brook := ⟨vi_X4_brook, vs_X4_brook⟩
theorem cd_X4_crew : Cond.code yX4_crew cX4_crew 1 (some (.object "DamOfTurf$Crew")) ∈ lw_ok := lw_ok_in (lw_g4 (List.mem_of_getElem? (i := 22) rfl)) rfl
theorem yk_X4_crew : vv_yok yX4_crew cX4_crew 1 (some (.object "DamOfTurf$Crew")) 0 := ⟨cd_X4_crew, in_X4, by decide +kernel⟩
theorem vi_X4_crew : Cond.instanceMethod yX4_crew ∈ lw_ok := lw_ok_in (lw_g4 (List.mem_of_getElem? (i := 20) rfl)) rfl
theorem vs_X4_crew : Cond.selects yX4_crew.cls yX4_crew yX4_crew ∈ lw_ok := lw_ok_in (lw_g4 (List.mem_of_getElem? (i := 21) rfl)) rfl
theorem vk_X4_crew : vv_vok yX4_crew := ⟨vi_X4_crew, vs_X4_crew⟩
theorem cd_X4_takes : Cond.code yX4_takes cX4_takes 2 (some .int) ∈ lw_ok := lw_ok_in (lw_g2 (List.mem_of_getElem? (i := 193) rfl)) rfl
theorem yk_X4_takes : vv_yok yX4_takes cX4_takes 2 (some .int) 1 := ⟨cd_X4_takes, in_X4, by decide +kernel⟩
theorem vi_X4_takes : Cond.instanceMethod yX4_takes ∈ lw_ok := lw_ok_in (lw_g2 (List.mem_of_getElem? (i := 191) rfl)) rfl
theorem vs_X4_takes : Cond.selects yX4_takes.cls yX4_takes yX4_takes ∈ lw_ok := lw_ok_in (lw_g2 (List.mem_of_getElem? (i := 192) rfl)) rfl
theorem vk_X4_takes : vv_vok yX4_takes := ⟨vi_X4_takes, vs_X4_takes⟩
theorem cd_X4_levelOf : Cond.code yX4_levelOf cX4_levelOf 5 (some .int) ∈ lw_ok := lw_ok_in (lw_g3 (List.mem_of_getElem? (i := 46) rfl)) rfl
theorem yk_X4_levelOf : vv_yok yX4_levelOf cX4_levelOf 5 (some .int) 1 := ⟨cd_X4_levelOf, in_X4, by decide +kernel⟩
theorem vi_X4_levelOf : Cond.instanceMethod yX4_levelOf ∈ lw_ok := lw_ok_in (lw_g3 (List.mem_of_getElem? (i := 44) rfl)) rfl
theorem vs_X4_levelOf : Cond.selects yX4_levelOf.cls yX4_levelOf yX4_levelOf ∈ lw_ok := lw_ok_in (lw_g3 (List.mem_of_getElem? (i := 45) rfl)) rfl
theorem vk_X4_levelOf : vv_vok yX4_levelOf := ⟨vi_X4_levelOf, vs_X4_levelOf⟩
theorem cd_X5_init : Cond.code yX5_init cX5_init 1 none ∈ lw_ok := lw_ok_in (lw_g1 (List.mem_of_getElem? (i := 234) rfl)) rfl
theorem yk_X5_init : vv_yok yX5_init cX5_init 1 none 0 := ⟨cd_X5_init, in_X5, by decide +kernel⟩
theorem cd_X5_start : Cond.code yX5_start cX5_start 4 none ∈ lw_ok := lw_ok_in (lw_g3 (List.mem_of_getElem? (i := 223) rfl)) rfl
theorem yk_X5_start : vv_yok yX5_start cX5_start 4 none 2 := ⟨cd_X5_start, in_X5, by decide +kernel⟩
theorem vi_X5_start : Cond.instanceMethod yX5_start ∈ lw_ok := lw_ok_in (lw_g3 (List.mem_of_getElem? (i := 221) rfl)) rfl
theorem vs_X5_start : Cond.selects yX5_start.cls yX5_start yX5_start ∈ lw_ok := lw_ok_in (lw_g3 (List.mem_of_getElem? (i := 222) rfl)) rfl
theorem vk_X5_start : vv_vok yX5_start := ⟨vi_X5_start, vs_X5_start⟩
theorem cd_X5_next : Cond.code yX5_next cX5_next 4 (some .boolean) ∈ lw_ok := lw_ok_in (lw_g4 (List.mem_of_getElem? (i := 0) rfl)) rfl
theorem yk_X5_next : vv_yok yX5_next cX5_next 4 (some .boolean) 0 := ⟨cd_X5_next, in_X5, by decide +kernel⟩
theorem vi_X5_next : Cond.instanceMethod yX5_next ∈ lw_ok := lw_ok_in (lw_g3 (List.mem_of_getElem? (i := 238) rfl)) rfl
theorem vs_X5_next : Cond.selects yX5_next.cls yX5_next yX5_next ∈ lw_ok := lw_ok_in (lw_g3 (List.mem_of_getElem? (i := 239) rfl)) rfl
theorem vk_X5_next : vv_vok yX5_next := ⟨vi_X5_next, vs_X5_next⟩
theorem cd_X5_inchesAt : Cond.code yX5_inchesAt cX5_inchesAt 2 (some .int) ∈ lw_ok := lw_ok_in (lw_g3 (List.mem_of_getElem? (i := 232) rfl)) rfl
theorem yk_X5_inchesAt : vv_yok yX5_inchesAt cX5_inchesAt 2 (some .int) 1 := ⟨cd_X5_inchesAt, in_X5, by decide +kernel⟩
theorem vi_X5_inchesAt : Cond.instanceMethod yX5_inchesAt ∈ lw_ok := lw_ok_in (lw_g3 (List.mem_of_getElem? (i := 230) rfl)) rfl
theorem vs_X5_inchesAt : Cond.selects yX5_inchesAt.cls yX5_inchesAt yX5_inchesAt ∈ lw_ok := lw_ok_in (lw_g3 (List.mem_of_getElem? (i := 231) rfl)) rfl
theorem vk_X5_inchesAt : vv_vok yX5_inchesAt := ⟨vi_X5_inchesAt, vs_X5_inchesAt⟩
theorem cd_X5_copyFrom : Cond.code yX5_copyFrom cX5_copyFrom 3 none ∈ lw_ok := lw_ok_in (lw_g3 (List.mem_of_getElem? (i := 236) rfl)) rfl
theorem yk_X5_copyFrom : vv_yok yX5_copyFrom cX5_copyFrom 3 none 1 := ⟨cd_X5_copyFrom, in_X5, by decide +kernel⟩
theorem vi_X5_copyFrom : Cond.instanceMethod yX5_copyFrom ∈ lw_ok := lw_ok_in (lw_g3 (List.mem_of_getElem? (i := 234) rfl)) rfl
theorem vs_X5_copyFrom : Cond.selects yX5_copyFrom.cls yX5_copyFrom yX5_copyFrom ∈ lw_ok := lw_ok_in (lw_g3 (List.mem_of_getElem? (i := 235) rfl)) rfl
theorem vk_X5_copyFrom : vv_vok yX5_copyFrom := ⟨vi_X5_copyFrom, vs_X5_copyFrom⟩
theorem cd_X6_init : Cond.code yX6_init cX6_init 1 none ∈ lw_ok := lw_ok_in (lw_g1 (List.mem_of_getElem? (i := 218) rfl)) rfl
theorem yk_X6_init : vv_yok yX6_init cX6_init 1 none 0 := ⟨cd_X6_init, in_X6, by decide +kernel⟩
theorem cd_X6_size : Cond.code yX6_size cX6_size 1 (some .int) ∈ lw_ok := lw_ok_in (lw_g4 (List.mem_of_getElem? (i := 94) rfl)) rfl
theorem yk_X6_size : vv_yok yX6_size cX6_size 1 (some .int) 0 := ⟨cd_X6_size, in_X6, by decide +kernel⟩
theorem vi_X6_size : Cond.instanceMethod yX6_size ∈ lw_ok := lw_ok_in (lw_g4 (List.mem_of_getElem? (i := 92) rfl)) rfl
theorem vs_X6_size : Cond.selects yX6_size.cls yX6_size yX6_size ∈ lw_ok := lw_ok_in (lw_g4 (List.mem_of_getElem? (i := 93) rfl)) rfl
theorem vk_X6_size : vv_vok yX6_size := ⟨vi_X6_size, vs_X6_size⟩
theorem cd_X6_clear : Cond.code yX6_clear cX6_clear 1 none ∈ lw_ok := lw_ok_in (lw_g3 (List.mem_of_getElem? (i := 14) rfl)) rfl
theorem yk_X6_clear : vv_yok yX6_clear cX6_clear 1 none 0 := ⟨cd_X6_clear, in_X6, by decide +kernel⟩
theorem vi_X6_clear : Cond.instanceMethod yX6_clear ∈ lw_ok := lw_ok_in (lw_g3 (List.mem_of_getElem? (i := 12) rfl)) rfl
theorem vs_X6_clear : Cond.selects yX6_clear.cls yX6_clear yX6_clear ∈ lw_ok := lw_ok_in (lw_g3 (List.mem_of_getElem? (i := 13) rfl)) rfl
theorem vk_X6_clear : vv_vok yX6_clear := ⟨vi_X6_clear, vs_X6_clear⟩
theorem cd_X6_add : Cond.code yX6_add cX6_add 3 (some .boolean) ∈ lw_ok := lw_ok_in (lw_g4 (List.mem_of_getElem? (i := 90) rfl)) rfl
theorem yk_X6_add : vv_yok yX6_add cX6_add 3 (some .boolean) 2 := ⟨cd_X6_add, in_X6, by decide +kernel⟩
theorem vi_X6_add : Cond.instanceMethod yX6_add ∈ lw_ok := lw_ok_in (lw_g4 (List.mem_of_getElem? (i := 88) rfl)) rfl
theorem vs_X6_add : Cond.selects yX6_add.cls yX6_add yX6_add ∈ lw_ok := lw_ok_in (lw_g4 (List.mem_of_getElem? (i := 89) rfl)) rfl
theorem vk_X6_add : vv_vok yX6_add := ⟨vi_X6_add, vs_X6_add⟩
theorem cd_X6_agreeWith : Cond.code yX6_agreeWith cX6_agreeWith 4 (some .boolean) ∈ lw_ok := lw_ok_in (lw_g4 (List.mem_of_getElem? (i := 106) rfl)) rfl
theorem yk_X6_agreeWith : vv_yok yX6_agreeWith cX6_agreeWith 4 (some .boolean) 2 := ⟨cd_X6_agreeWith, in_X6, by decide +kernel⟩
theorem vi_X6_agreeWith : Cond.instanceMethod yX6_agreeWith ∈ lw_ok := lw_ok_in (lw_g4 (List.mem_of_getElem? (i := 104) rfl)) rfl
theorem vs_X6_agreeWith : Cond.selects yX6_agreeWith.cls yX6_agreeWith yX6_agreeWith ∈ lw_ok := lw_ok_in (lw_g4 (List.mem_of_getElem? (i := 105) rfl)) rfl
theorem vk_X6_agreeWith : vv_vok yX6_agreeWith := ⟨vi_X6_agreeWith, vs_X6_agreeWith⟩
theorem cd_X7_init : Cond.code yX7_init cX7_init 1 none ∈ lw_ok := lw_ok_in (lw_g1 (List.mem_of_getElem? (i := 28) rfl)) rfl
theorem yk_X7_init : vv_yok yX7_init cX7_init 1 none 0 := ⟨cd_X7_init, in_X7, by decide +kernel⟩
theorem cd_X7_size : Cond.code yX7_size cX7_size 1 (some .int) ∈ lw_ok := lw_ok_in (lw_g2 (List.mem_of_getElem? (i := 75) rfl)) rfl
theorem yk_X7_size : vv_yok yX7_size cX7_size 1 (some .int) 0 := ⟨cd_X7_size, in_X7, by decide +kernel⟩
theorem vi_X7_size : Cond.instanceMethod yX7_size ∈ lw_ok := lw_ok_in (lw_g2 (List.mem_of_getElem? (i := 73) rfl)) rfl
theorem vs_X7_size : Cond.selects yX7_size.cls yX7_size yX7_size ∈ lw_ok := lw_ok_in (lw_g2 (List.mem_of_getElem? (i := 74) rfl)) rfl
theorem vk_X7_size : vv_vok yX7_size := ⟨vi_X7_size, vs_X7_size⟩
theorem cd_X7_clear : Cond.code yX7_clear cX7_clear 1 none ∈ lw_ok := lw_ok_in (lw_g2 (List.mem_of_getElem? (i := 158) rfl)) rfl
theorem yk_X7_clear : vv_yok yX7_clear cX7_clear 1 none 0 := ⟨cd_X7_clear, in_X7, by decide +kernel⟩
theorem vi_X7_clear : Cond.instanceMethod yX7_clear ∈ lw_ok := lw_ok_in (lw_g2 (List.mem_of_getElem? (i := 156) rfl)) rfl
theorem vs_X7_clear : Cond.selects yX7_clear.cls yX7_clear yX7_clear ∈ lw_ok := lw_ok_in (lw_g2 (List.mem_of_getElem? (i := 157) rfl)) rfl
theorem vk_X7_clear : vv_vok yX7_clear := ⟨vi_X7_clear, vs_X7_clear⟩
theorem cd_X7_add : Cond.code yX7_add cX7_add 2 (some .boolean) ∈ lw_ok := lw_ok_in (lw_g2 (List.mem_of_getElem? (i := 55) rfl)) rfl
theorem yk_X7_add : vv_yok yX7_add cX7_add 2 (some .boolean) 1 := ⟨cd_X7_add, in_X7, by decide +kernel⟩
theorem vi_X7_add : Cond.instanceMethod yX7_add ∈ lw_ok := lw_ok_in (lw_g2 (List.mem_of_getElem? (i := 53) rfl)) rfl
theorem vs_X7_add : Cond.selects yX7_add.cls yX7_add yX7_add ∈ lw_ok := lw_ok_in (lw_g2 (List.mem_of_getElem? (i := 54) rfl)) rfl
theorem vk_X7_add : vv_vok yX7_add := ⟨vi_X7_add, vs_X7_add⟩
theorem cd_X7_letterAt : Cond.code yX7_letterAt cX7_letterAt 2 (some .int) ∈ lw_ok := lw_ok_in (lw_g2 (List.mem_of_getElem? (i := 91) rfl)) rfl
theorem yk_X7_letterAt : vv_yok yX7_letterAt cX7_letterAt 2 (some .int) 1 := ⟨cd_X7_letterAt, in_X7, by decide +kernel⟩
theorem vi_X7_letterAt : Cond.instanceMethod yX7_letterAt ∈ lw_ok := lw_ok_in (lw_g2 (List.mem_of_getElem? (i := 89) rfl)) rfl
theorem vs_X7_letterAt : Cond.selects yX7_letterAt.cls yX7_letterAt yX7_letterAt ∈ lw_ok := lw_ok_in (lw_g2 (List.mem_of_getElem? (i := 90) rfl)) rfl
theorem vk_X7_letterAt : vv_vok yX7_letterAt := ⟨vi_X7_letterAt, vs_X7_letterAt⟩
theorem cd_X7_numberCount : Cond.code yX7_numberCount cX7_numberCount 1 (some .int) ∈ lw_ok := lw_ok_in (lw_g2 (List.mem_of_getElem? (i := 100) rfl)) rfl
theorem yk_X7_numberCount : vv_yok yX7_numberCount cX7_numberCount 1 (some .int) 0 := ⟨cd_X7_numberCount, in_X7, by decide +kernel⟩
theorem vi_X7_numberCount : Cond.instanceMethod yX7_numberCount ∈ lw_ok := lw_ok_in (lw_g2 (List.mem_of_getElem? (i := 98) rfl)) rfl
theorem vs_X7_numberCount : Cond.selects yX7_numberCount.cls yX7_numberCount yX7_numberCount ∈ lw_ok := lw_ok_in (lw_g2 (List.mem_of_getElem? (i := 99) rfl)) rfl
theorem vk_X7_numberCount : vv_vok yX7_numberCount := ⟨vi_X7_numberCount, vs_X7_numberCount⟩
theorem cd_X7_numberAt : Cond.code yX7_numberAt cX7_numberAt 2 (some .int) ∈ lw_ok := lw_ok_in (lw_g2 (List.mem_of_getElem? (i := 104) rfl)) rfl
theorem yk_X7_numberAt : vv_yok yX7_numberAt cX7_numberAt 2 (some .int) 1 := ⟨cd_X7_numberAt, in_X7, by decide +kernel⟩
theorem vi_X7_numberAt : Cond.instanceMethod yX7_numberAt ∈ lw_ok := lw_ok_in (lw_g2 (List.mem_of_getElem? (i := 102) rfl)) rfl
theorem vs_X7_numberAt : Cond.selects yX7_numberAt.cls yX7_numberAt yX7_numberAt ∈ lw_ok := lw_ok_in (lw_g2 (List.mem_of_getElem? (i := 103) rfl)) rfl
theorem vk_X7_numberAt : vv_vok yX7_numberAt := ⟨vi_X7_numberAt, vs_X7_numberAt⟩
theorem cd_X7_readItem : Cond.code yX7_readItem cX7_readItem 6 (some .int) ∈ lw_ok := lw_ok_in (lw_g2 (List.mem_of_getElem? (i := 79) rfl)) rfl
theorem yk_X7_readItem : vv_yok yX7_readItem cX7_readItem 6 (some .int) 1 := ⟨cd_X7_readItem, in_X7, by decide +kernel⟩
theorem vi_X7_readItem : Cond.instanceMethod yX7_readItem ∈ lw_ok := lw_ok_in (lw_g2 (List.mem_of_getElem? (i := 77) rfl)) rfl
theorem vs_X7_readItem : Cond.selects yX7_readItem.cls yX7_readItem yX7_readItem ∈ lw_ok := lw_ok_in (lw_g2 (List.mem_of_getElem? (i := 78) rfl)) rfl
theorem vk_X7_readItem : vv_vok yX7_readItem := ⟨vi_X7_readItem, vs_X7_readItem⟩
theorem cd_X7_figuresAt : Cond.code yX7_figuresAt cX7_figuresAt 2 (some .int) ∈ lw_ok := lw_ok_in (lw_g2 (List.mem_of_getElem? (i := 83) rfl)) rfl
theorem yk_X7_figuresAt : vv_yok yX7_figuresAt cX7_figuresAt 2 (some .int) 1 := ⟨cd_X7_figuresAt, in_X7, by decide +kernel⟩
theorem vi_X7_figuresAt : Cond.instanceMethod yX7_figuresAt ∈ lw_ok := lw_ok_in (lw_g2 (List.mem_of_getElem? (i := 82) rfl)) rfl
theorem vs_X7_figuresAt : Cond.selects yX7_figuresAt.cls yX7_figuresAt yX7_figuresAt ∈ lw_ok := lw_ok_in (lw_g0 (List.mem_of_getElem? (i := 1) rfl)) rfl
theorem vk_X7_figuresAt : vv_vok yX7_figuresAt := ⟨vi_X7_figuresAt, vs_X7_figuresAt⟩
theorem cd_X7_figureAt : Cond.code yX7_figureAt cX7_figureAt 3 (some .int) ∈ lw_ok := lw_ok_in (lw_g2 (List.mem_of_getElem? (i := 87) rfl)) rfl
theorem yk_X7_figureAt : vv_yok yX7_figureAt cX7_figureAt 3 (some .int) 1 := ⟨cd_X7_figureAt, in_X7, by decide +kernel⟩
theorem vi_X7_figureAt : Cond.instanceMethod yX7_figureAt ∈ lw_ok := lw_ok_in (lw_g2 (List.mem_of_getElem? (i := 86) rfl)) rfl
theorem vs_X7_figureAt : Cond.selects yX7_figureAt.cls yX7_figureAt yX7_figureAt ∈ lw_ok := lw_ok_in (lw_g0 (List.mem_of_getElem? (i := 2) rfl)) rfl
theorem vk_X7_figureAt : vv_vok yX7_figureAt := ⟨vi_X7_figureAt, vs_X7_figureAt⟩
theorem cd_X8_init : Cond.code yX8_init cX8_init 2 none ∈ lw_ok := lw_ok_in (lw_g1 (List.mem_of_getElem? (i := 20) rfl)) rfl
theorem yk_X8_init : vv_yok yX8_init cX8_init 2 none 0 := ⟨cd_X8_init, in_X8, by decide +kernel⟩
theorem cd_X8_write : Cond.code yX8_write cX8_write 2 (some .int) ∈ lw_ok := lw_ok_in (lw_g2 (List.mem_of_getElem? (i := 232) rfl)) rfl
theorem yk_X8_write : vv_yok yX8_write cX8_write 2 (some .int) 1 := ⟨cd_X8_write, in_X8, by decide +kernel⟩
theorem vi_X8_write : Cond.instanceMethod yX8_write ∈ lw_ok := lw_ok_in (lw_g2 (List.mem_of_getElem? (i := 230) rfl)) rfl
theorem vs_X8_write : Cond.selects yX8_write.cls yX8_write yX8_write ∈ lw_ok := lw_ok_in (lw_g2 (List.mem_of_getElem? (i := 231) rfl)) rfl
theorem vk_X8_write : vv_vok yX8_write := ⟨vi_X8_write, vs_X8_write⟩
theorem cd_X8_wipe : Cond.code yX8_wipe cX8_wipe 2 (some .int) ∈ lw_ok := lw_ok_in (lw_g2 (List.mem_of_getElem? (i := 237) rfl)) rfl
theorem yk_X8_wipe : vv_yok yX8_wipe cX8_wipe 2 (some .int) 0 := ⟨cd_X8_wipe, in_X8, by decide +kernel⟩
theorem vi_X8_wipe : Cond.instanceMethod yX8_wipe ∈ lw_ok := lw_ok_in (lw_g2 (List.mem_of_getElem? (i := 235) rfl)) rfl
theorem vs_X8_wipe : Cond.selects yX8_wipe.cls yX8_wipe yX8_wipe ∈ lw_ok := lw_ok_in (lw_g2 (List.mem_of_getElem? (i := 236) rfl)) rfl
theorem vk_X8_wipe : vv_vok yX8_wipe := ⟨vi_X8_wipe, vs_X8_wipe⟩
theorem cd_X8_fault : Cond.code yX8_fault cX8_fault 1 (some .int) ∈ lw_ok := lw_ok_in (lw_g3 (List.mem_of_getElem? (i := 1) rfl)) rfl
theorem yk_X8_fault : vv_yok yX8_fault cX8_fault 1 (some .int) 0 := ⟨cd_X8_fault, in_X8, by decide +kernel⟩
theorem vi_X8_fault : Cond.instanceMethod yX8_fault ∈ lw_ok := lw_ok_in (lw_g2 (List.mem_of_getElem? (i := 239) rfl)) rfl
theorem vs_X8_fault : Cond.selects yX8_fault.cls yX8_fault yX8_fault ∈ lw_ok := lw_ok_in (lw_g3 (List.mem_of_getElem? (i := 0) rfl)) rfl
theorem vk_X8_fault : vv_vok yX8_fault := ⟨vi_X8_fault, vs_X8_fault⟩
theorem cd_X8_laid : Cond.code yX8_laid cX8_laid 1 (some .int) ∈ lw_ok := lw_ok_in (lw_g3 (List.mem_of_getElem? (i := 5) rfl)) rfl
theorem yk_X8_laid : vv_yok yX8_laid cX8_laid 1 (some .int) 0 := ⟨cd_X8_laid, in_X8, by decide +kernel⟩
theorem vi_X8_laid : Cond.instanceMethod yX8_laid ∈ lw_ok := lw_ok_in (lw_g3 (List.mem_of_getElem? (i := 3) rfl)) rfl
theorem vs_X8_laid : Cond.selects yX8_laid.cls yX8_laid yX8_laid ∈ lw_ok := lw_ok_in (lw_g3 (List.mem_of_getElem? (i := 4) rfl)) rfl
theorem vk_X8_laid : vv_vok yX8_laid := ⟨vi_X8_laid, vs_X8_laid⟩
theorem cd_X8_cell : Cond.code yX8_cell cX8_cell 3 (some .int) ∈ lw_ok := lw_ok_in (lw_g3 (List.mem_of_getElem? (i := 18) rfl)) rfl
theorem yk_X8_cell : vv_yok yX8_cell cX8_cell 3 (some .int) 2 := ⟨cd_X8_cell, in_X8, by decide +kernel⟩
theorem vi_X8_cell : Cond.instanceMethod yX8_cell ∈ lw_ok := lw_ok_in (lw_g3 (List.mem_of_getElem? (i := 16) rfl)) rfl
theorem vs_X8_cell : Cond.selects yX8_cell.cls yX8_cell yX8_cell ∈ lw_ok := lw_ok_in (lw_g3 (List.mem_of_getElem? (i := 17) rfl)) rfl
theorem vk_X8_cell : vv_vok yX8_cell := ⟨vi_X8_cell, vs_X8_cell⟩
theorem cd_X8_lake : Cond.code yX8_lake cX8_lake 2 (some .int) ∈ lw_ok := lw_ok_in (lw_g3 (List.mem_of_getElem? (i := 38) rfl)) rfl
theorem yk_X8_lake : vv_yok yX8_lake cX8_lake 2 (some .int) 1 := ⟨cd_X8_lake, in_X8, by decide +kernel⟩
theorem vi_X8_lake : Cond.instanceMethod yX8_lake ∈ lw_ok := lw_ok_in (lw_g3 (List.mem_of_getElem? (i := 36) rfl)) rfl
theorem vs_X8_lake : Cond.selects yX8_lake.cls yX8_lake yX8_lake ∈ lw_ok := lw_ok_in (lw_g3 (List.mem_of_getElem? (i := 37) rfl)) rfl
theorem vk_X8_lake : vv_vok yX8_lake := ⟨vi_X8_lake, vs_X8_lake⟩
theorem cd_X8_edge : Cond.code yX8_edge cX8_edge 2 (some .int) ∈ lw_ok := lw_ok_in (lw_g3 (List.mem_of_getElem? (i := 67) rfl)) rfl
theorem yk_X8_edge : vv_yok yX8_edge cX8_edge 2 (some .int) 1 := ⟨cd_X8_edge, in_X8, by decide +kernel⟩
theorem vi_X8_edge : Cond.instanceMethod yX8_edge ∈ lw_ok := lw_ok_in (lw_g3 (List.mem_of_getElem? (i := 65) rfl)) rfl
theorem vs_X8_edge : Cond.selects yX8_edge.cls yX8_edge yX8_edge ∈ lw_ok := lw_ok_in (lw_g3 (List.mem_of_getElem? (i := 66) rfl)) rfl
theorem vk_X8_edge : vv_vok yX8_edge := ⟨vi_X8_edge, vs_X8_edge⟩
theorem cd_X8_comes : Cond.code yX8_comes cX8_comes 2 (some .int) ∈ lw_ok := lw_ok_in (lw_g3 (List.mem_of_getElem? (i := 79) rfl)) rfl
theorem yk_X8_comes : vv_yok yX8_comes cX8_comes 2 (some .int) 1 := ⟨cd_X8_comes, in_X8, by decide +kernel⟩
theorem vi_X8_comes : Cond.instanceMethod yX8_comes ∈ lw_ok := lw_ok_in (lw_g3 (List.mem_of_getElem? (i := 77) rfl)) rfl
theorem vs_X8_comes : Cond.selects yX8_comes.cls yX8_comes yX8_comes ∈ lw_ok := lw_ok_in (lw_g3 (List.mem_of_getElem? (i := 78) rfl)) rfl
theorem vk_X8_comes : vv_vok yX8_comes := ⟨vi_X8_comes, vs_X8_comes⟩
theorem cd_X8_put : Cond.code yX8_put cX8_put 4 (some .int) ∈ lw_ok := lw_ok_in (lw_g3 (List.mem_of_getElem? (i := 92) rfl)) rfl
theorem yk_X8_put : vv_yok yX8_put cX8_put 4 (some .int) 3 := ⟨cd_X8_put, in_X8, by decide +kernel⟩
theorem vi_X8_put : Cond.instanceMethod yX8_put ∈ lw_ok := lw_ok_in (lw_g3 (List.mem_of_getElem? (i := 90) rfl)) rfl
theorem vs_X8_put : Cond.selects yX8_put.cls yX8_put yX8_put ∈ lw_ok := lw_ok_in (lw_g3 (List.mem_of_getElem? (i := 91) rfl)) rfl
theorem vk_X8_put : vv_vok yX8_put := ⟨vi_X8_put, vs_X8_put⟩
theorem cd_X8_dig : Cond.code yX8_dig cX8_dig 3 (some .int) ∈ lw_ok := lw_ok_in (lw_g3 (List.mem_of_getElem? (i := 114) rfl)) rfl
theorem yk_X8_dig : vv_yok yX8_dig cX8_dig 3 (some .int) 2 := ⟨cd_X8_dig, in_X8, by decide +kernel⟩
theorem vi_X8_dig : Cond.instanceMethod yX8_dig ∈ lw_ok := lw_ok_in (lw_g3 (List.mem_of_getElem? (i := 112) rfl)) rfl
theorem vs_X8_dig : Cond.selects yX8_dig.cls yX8_dig yX8_dig ∈ lw_ok := lw_ok_in (lw_g3 (List.mem_of_getElem? (i := 113) rfl)) rfl
theorem vk_X8_dig : vv_vok yX8_dig := ⟨vi_X8_dig, vs_X8_dig⟩
theorem cd_X8_pass : Cond.code yX8_pass cX8_pass 2 (some .int) ∈ lw_ok := lw_ok_in (lw_g3 (List.mem_of_getElem? (i := 127) rfl)) rfl
theorem yk_X8_pass : vv_yok yX8_pass cX8_pass 2 (some .int) 1 := ⟨cd_X8_pass, in_X8, by decide +kernel⟩
theorem vi_X8_pass : Cond.instanceMethod yX8_pass ∈ lw_ok := lw_ok_in (lw_g3 (List.mem_of_getElem? (i := 125) rfl)) rfl
theorem vs_X8_pass : Cond.selects yX8_pass.cls yX8_pass yX8_pass ∈ lw_ok := lw_ok_in (lw_g3 (List.mem_of_getElem? (i := 126) rfl)) rfl
theorem vk_X8_pass : vv_vok yX8_pass := ⟨vi_X8_pass, vs_X8_pass⟩
theorem cd_X8_undo : Cond.code yX8_undo cX8_undo 1 (some .int) ∈ lw_ok := lw_ok_in (lw_g3 (List.mem_of_getElem? (i := 152) rfl)) rfl
theorem yk_X8_undo : vv_yok yX8_undo cX8_undo 1 (some .int) 0 := ⟨cd_X8_undo, in_X8, by decide +kernel⟩
theorem vi_X8_undo : Cond.instanceMethod yX8_undo ∈ lw_ok := lw_ok_in (lw_g3 (List.mem_of_getElem? (i := 150) rfl)) rfl
theorem vs_X8_undo : Cond.selects yX8_undo.cls yX8_undo yX8_undo ∈ lw_ok := lw_ok_in (lw_g3 (List.mem_of_getElem? (i := 151) rfl)) rfl
theorem vk_X8_undo : vv_vok yX8_undo := ⟨vi_X8_undo, vs_X8_undo⟩
theorem cd_X8_behind : Cond.code yX8_behind cX8_behind 3 (some .int) ∈ lw_ok := lw_ok_in (lw_g3 (List.mem_of_getElem? (i := 179) rfl)) rfl
theorem yk_X8_behind : vv_yok yX8_behind cX8_behind 3 (some .int) 2 := ⟨cd_X8_behind, in_X8, by decide +kernel⟩
theorem vi_X8_behind : Cond.instanceMethod yX8_behind ∈ lw_ok := lw_ok_in (lw_g3 (List.mem_of_getElem? (i := 177) rfl)) rfl
theorem vs_X8_behind : Cond.selects yX8_behind.cls yX8_behind yX8_behind ∈ lw_ok := lw_ok_in (lw_g3 (List.mem_of_getElem? (i := 178) rfl)) rfl
theorem vk_X8_behind : vv_vok yX8_behind := ⟨vi_X8_behind, vs_X8_behind⟩
theorem cd_X8_worn : Cond.code yX8_worn cX8_worn 3 (some .int) ∈ lw_ok := lw_ok_in (lw_g3 (List.mem_of_getElem? (i := 187) rfl)) rfl
theorem yk_X8_worn : vv_yok yX8_worn cX8_worn 3 (some .int) 2 := ⟨cd_X8_worn, in_X8, by decide +kernel⟩
theorem vi_X8_worn : Cond.instanceMethod yX8_worn ∈ lw_ok := lw_ok_in (lw_g3 (List.mem_of_getElem? (i := 185) rfl)) rfl
theorem vs_X8_worn : Cond.selects yX8_worn.cls yX8_worn yX8_worn ∈ lw_ok := lw_ok_in (lw_g3 (List.mem_of_getElem? (i := 186) rfl)) rfl
theorem vk_X8_worn : vv_vok yX8_worn := ⟨vi_X8_worn, vs_X8_worn⟩
theorem cd_X8_over : Cond.code yX8_over cX8_over 3 (some .int) ∈ lw_ok := lw_ok_in (lw_g3 (List.mem_of_getElem? (i := 191) rfl)) rfl
theorem yk_X8_over : vv_yok yX8_over cX8_over 3 (some .int) 1 := ⟨cd_X8_over, in_X8, by decide +kernel⟩
theorem vi_X8_over : Cond.instanceMethod yX8_over ∈ lw_ok := lw_ok_in (lw_g3 (List.mem_of_getElem? (i := 189) rfl)) rfl
theorem vs_X8_over : Cond.selects yX8_over.cls yX8_over yX8_over ∈ lw_ok := lw_ok_in (lw_g3 (List.mem_of_getElem? (i := 190) rfl)) rfl
theorem vk_X8_over : vv_vok yX8_over := ⟨vi_X8_over, vs_X8_over⟩
theorem cd_X8_gone : Cond.code yX8_gone cX8_gone 3 (some .int) ∈ lw_ok := lw_ok_in (lw_g3 (List.mem_of_getElem? (i := 203) rfl)) rfl
theorem yk_X8_gone : vv_yok yX8_gone cX8_gone 3 (some .int) 1 := ⟨cd_X8_gone, in_X8, by decide +kernel⟩
theorem vi_X8_gone : Cond.instanceMethod yX8_gone ∈ lw_ok := lw_ok_in (lw_g3 (List.mem_of_getElem? (i := 201) rfl)) rfl
theorem vs_X8_gone : Cond.selects yX8_gone.cls yX8_gone yX8_gone ∈ lw_ok := lw_ok_in (lw_g3 (List.mem_of_getElem? (i := 202) rfl)) rfl
theorem vk_X8_gone : vv_vok yX8_gone := ⟨vi_X8_gone, vs_X8_gone⟩
theorem cd_X8_best : Cond.code yX8_best cX8_best 6 (some .int) ∈ lw_ok := lw_ok_in (lw_g3 (List.mem_of_getElem? (i := 215) rfl)) rfl
theorem yk_X8_best : vv_yok yX8_best cX8_best 6 (some .int) 4 := ⟨cd_X8_best, in_X8, by decide +kernel⟩
theorem vi_X8_best : Cond.instanceMethod yX8_best ∈ lw_ok := lw_ok_in (lw_g3 (List.mem_of_getElem? (i := 213) rfl)) rfl
theorem vs_X8_best : Cond.selects yX8_best.cls yX8_best yX8_best ∈ lw_ok := lw_ok_in (lw_g3 (List.mem_of_getElem? (i := 214) rfl)) rfl
theorem vk_X8_best : vv_vok yX8_best := ⟨vi_X8_best, vs_X8_best⟩
theorem cd_X8_findBestShares : Cond.code yX8_findBestShares cX8_findBestShares 8 (some .int) ∈ lw_ok := lw_ok_in (lw_g3 (List.mem_of_getElem? (i := 219) rfl)) rfl
theorem yk_X8_findBestShares : vv_yok yX8_findBestShares cX8_findBestShares 8 (some .int) 3 := ⟨cd_X8_findBestShares, in_X8, by decide +kernel⟩
theorem vi_X8_findBestShares : Cond.instanceMethod yX8_findBestShares ∈ lw_ok := lw_ok_in (lw_g3 (List.mem_of_getElem? (i := 218) rfl)) rfl
theorem vs_X8_findBestShares : Cond.selects yX8_findBestShares.cls yX8_findBestShares yX8_findBestShares ∈ lw_ok := lw_ok_in (lw_g0 (List.mem_of_getElem? (i := 12) rfl)) rfl
theorem vk_X8_findBestShares : vv_vok yX8_findBestShares := ⟨vi_X8_findBestShares, vs_X8_findBestShares⟩
theorem cd_X8_waterWithShares : Cond.code yX8_waterWithShares cX8_waterWithShares 5 (some .int) ∈ lw_ok := lw_ok_in (lw_g3 (List.mem_of_getElem? (i := 228) rfl)) rfl
theorem yk_X8_waterWithShares : vv_yok yX8_waterWithShares cX8_waterWithShares 5 (some .int) 2 := ⟨cd_X8_waterWithShares, in_X8, by decide +kernel⟩
theorem vi_X8_waterWithShares : Cond.instanceMethod yX8_waterWithShares ∈ lw_ok := lw_ok_in (lw_g3 (List.mem_of_getElem? (i := 227) rfl)) rfl
theorem vs_X8_waterWithShares : Cond.selects yX8_waterWithShares.cls yX8_waterWithShares yX8_waterWithShares ∈ lw_ok := lw_ok_in (lw_g0 (List.mem_of_getElem? (i := 13) rfl)) rfl
theorem vk_X8_waterWithShares : vv_vok yX8_waterWithShares := ⟨vi_X8_waterWithShares, vs_X8_waterWithShares⟩
theorem cd_X8_gap : Cond.code yX8_gap cX8_gap 5 (some .int) ∈ lw_ok := lw_ok_in (lw_g4 (List.mem_of_getElem? (i := 4) rfl)) rfl
theorem yk_X8_gap : vv_yok yX8_gap cX8_gap 5 (some .int) 2 := ⟨cd_X8_gap, in_X8, by decide +kernel⟩
theorem vi_X8_gap : Cond.instanceMethod yX8_gap ∈ lw_ok := lw_ok_in (lw_g4 (List.mem_of_getElem? (i := 2) rfl)) rfl
theorem vs_X8_gap : Cond.selects yX8_gap.cls yX8_gap yX8_gap ∈ lw_ok := lw_ok_in (lw_g4 (List.mem_of_getElem? (i := 3) rfl)) rfl
theorem vk_X8_gap : vv_vok yX8_gap := ⟨vi_X8_gap, vs_X8_gap⟩
theorem cd_X8_isGap : Cond.code yX8_isGap cX8_isGap 5 (some .boolean) ∈ lw_ok := lw_ok_in (lw_g4 (List.mem_of_getElem? (i := 8) rfl)) rfl
theorem yk_X8_isGap : vv_yok yX8_isGap cX8_isGap 5 (some .boolean) 3 := ⟨cd_X8_isGap, in_X8, by decide +kernel⟩
theorem vi_X8_isGap : Cond.instanceMethod yX8_isGap ∈ lw_ok := lw_ok_in (lw_g4 (List.mem_of_getElem? (i := 7) rfl)) rfl
theorem vs_X8_isGap : Cond.selects yX8_isGap.cls yX8_isGap yX8_isGap ∈ lw_ok := lw_ok_in (lw_g0 (List.mem_of_getElem? (i := 14) rfl)) rfl
theorem vk_X8_isGap : vv_vok yX8_isGap := ⟨vi_X8_isGap, vs_X8_isGap⟩
theorem cd_X8_together : Cond.code yX8_together cX8_together 3 (some .int) ∈ lw_ok := lw_ok_in (lw_g4 (List.mem_of_getElem? (i := 18) rfl)) rfl
theorem yk_X8_together : vv_yok yX8_together cX8_together 3 (some .int) 1 := ⟨cd_X8_together, in_X8, by decide +kernel⟩
theorem vi_X8_together : Cond.instanceMethod yX8_together ∈ lw_ok := lw_ok_in (lw_g4 (List.mem_of_getElem? (i := 16) rfl)) rfl
theorem vs_X8_together : Cond.selects yX8_together.cls yX8_together yX8_together ∈ lw_ok := lw_ok_in (lw_g4 (List.mem_of_getElem? (i := 17) rfl)) rfl
theorem vk_X8_together : vv_vok yX8_together := ⟨vi_X8_together, vs_X8_together⟩
theorem cd_X8_slow : Cond.code yX8_slow cX8_slow 6 (some .int) ∈ lw_ok := lw_ok_in (lw_g4 (List.mem_of_getElem? (i := 53) rfl)) rfl
theorem yk_X8_slow : vv_yok yX8_slow cX8_slow 6 (some .int) 3 := ⟨cd_X8_slow, in_X8, by decide +kernel⟩
theorem vi_X8_slow : Cond.instanceMethod yX8_slow ∈ lw_ok := lw_ok_in (lw_g4 (List.mem_of_getElem? (i := 51) rfl)) rfl
theorem vs_X8_slow : Cond.selects yX8_slow.cls yX8_slow yX8_slow ∈ lw_ok := lw_ok_in (lw_g4 (List.mem_of_getElem? (i := 52) rfl)) rfl
theorem vk_X8_slow : vv_vok yX8_slow := ⟨vi_X8_slow, vs_X8_slow⟩
theorem cd_X8_letOut : Cond.code yX8_letOut cX8_letOut 7 (some .int) ∈ lw_ok := lw_ok_in (lw_g4 (List.mem_of_getElem? (i := 57) rfl)) rfl
theorem yk_X8_letOut : vv_yok yX8_letOut cX8_letOut 7 (some .int) 3 := ⟨cd_X8_letOut, in_X8, by decide +kernel⟩
theorem vi_X8_letOut : Cond.instanceMethod yX8_letOut ∈ lw_ok := lw_ok_in (lw_g4 (List.mem_of_getElem? (i := 56) rfl)) rfl
theorem vs_X8_letOut : Cond.selects yX8_letOut.cls yX8_letOut yX8_letOut ∈ lw_ok := lw_ok_in (lw_g0 (List.mem_of_getElem? (i := 17) rfl)) rfl
theorem vk_X8_letOut : vv_vok yX8_letOut := ⟨vi_X8_letOut, vs_X8_letOut⟩
theorem cd_X8_fill : Cond.code yX8_fill cX8_fill 3 (some .int) ∈ lw_ok := lw_ok_in (lw_g4 (List.mem_of_getElem? (i := 62) rfl)) rfl
theorem yk_X8_fill : vv_yok yX8_fill cX8_fill 3 (some .int) 1 := ⟨cd_X8_fill, in_X8, by decide +kernel⟩
theorem vi_X8_fill : Cond.instanceMethod yX8_fill ∈ lw_ok := lw_ok_in (lw_g4 (List.mem_of_getElem? (i := 60) rfl)) rfl
theorem vs_X8_fill : Cond.selects yX8_fill.cls yX8_fill yX8_fill ∈ lw_ok := lw_ok_in (lw_g4 (List.mem_of_getElem? (i := 61) rfl)) rfl
theorem vk_X8_fill : vv_vok yX8_fill := ⟨vi_X8_fill, vs_X8_fill⟩
theorem cd_X8_trodden : Cond.code yX8_trodden cX8_trodden 5 (some .int) ∈ lw_ok := lw_ok_in (lw_g4 (List.mem_of_getElem? (i := 70) rfl)) rfl
theorem yk_X8_trodden : vv_yok yX8_trodden cX8_trodden 5 (some .int) 2 := ⟨cd_X8_trodden, in_X8, by decide +kernel⟩
theorem vi_X8_trodden : Cond.instanceMethod yX8_trodden ∈ lw_ok := lw_ok_in (lw_g4 (List.mem_of_getElem? (i := 68) rfl)) rfl
theorem vs_X8_trodden : Cond.selects yX8_trodden.cls yX8_trodden yX8_trodden ∈ lw_ok := lw_ok_in (lw_g4 (List.mem_of_getElem? (i := 69) rfl)) rfl
theorem vk_X8_trodden : vv_vok yX8_trodden := ⟨vi_X8_trodden, vs_X8_trodden⟩
theorem cd_X8_blame : Cond.code yX8_blame cX8_blame 2 (some .int) ∈ lw_ok := lw_ok_in (lw_g4 (List.mem_of_getElem? (i := 74) rfl)) rfl
theorem yk_X8_blame : vv_yok yX8_blame cX8_blame 2 (some .int) 0 := ⟨cd_X8_blame, in_X8, by decide +kernel⟩
theorem vi_X8_blame : Cond.instanceMethod yX8_blame ∈ lw_ok := lw_ok_in (lw_g4 (List.mem_of_getElem? (i := 72) rfl)) rfl
theorem vs_X8_blame : Cond.selects yX8_blame.cls yX8_blame yX8_blame ∈ lw_ok := lw_ok_in (lw_g4 (List.mem_of_getElem? (i := 73) rfl)) rfl
theorem vk_X8_blame : vv_vok yX8_blame := ⟨vi_X8_blame, vs_X8_blame⟩
theorem cd_X8_seen : Cond.code yX8_seen cX8_seen 3 (some .int) ∈ lw_ok := lw_ok_in (lw_g4 (List.mem_of_getElem? (i := 86) rfl)) rfl
theorem yk_X8_seen : vv_yok yX8_seen cX8_seen 3 (some .int) 2 := ⟨cd_X8_seen, in_X8, by decide +kernel⟩
theorem vi_X8_seen : Cond.instanceMethod yX8_seen ∈ lw_ok := lw_ok_in (lw_g4 (List.mem_of_getElem? (i := 84) rfl)) rfl
theorem vs_X8_seen : Cond.selects yX8_seen.cls yX8_seen yX8_seen ∈ lw_ok := lw_ok_in (lw_g4 (List.mem_of_getElem? (i := 85) rfl)) rfl
theorem vk_X8_seen : vv_vok yX8_seen := ⟨vi_X8_seen, vs_X8_seen⟩
theorem cd_X8_forget : Cond.code yX8_forget cX8_forget 2 (some .int) ∈ lw_ok := lw_ok_in (lw_g4 (List.mem_of_getElem? (i := 98) rfl)) rfl
theorem yk_X8_forget : vv_yok yX8_forget cX8_forget 2 (some .int) 0 := ⟨cd_X8_forget, in_X8, by decide +kernel⟩
theorem vi_X8_forget : Cond.instanceMethod yX8_forget ∈ lw_ok := lw_ok_in (lw_g4 (List.mem_of_getElem? (i := 96) rfl)) rfl
theorem vs_X8_forget : Cond.selects yX8_forget.cls yX8_forget yX8_forget ∈ lw_ok := lw_ok_in (lw_g4 (List.mem_of_getElem? (i := 97) rfl)) rfl
theorem vk_X8_forget : vv_vok yX8_forget := ⟨vi_X8_forget, vs_X8_forget⟩
theorem cd_X8_flows : Cond.code yX8_flows cX8_flows 3 (some .int) ∈ lw_ok := lw_ok_in (lw_g4 (List.mem_of_getElem? (i := 102) rfl)) rfl
theorem yk_X8_flows : vv_yok yX8_flows cX8_flows 3 (some .int) 0 := ⟨cd_X8_flows, in_X8, by decide +kernel⟩
theorem vi_X8_flows : Cond.instanceMethod yX8_flows ∈ lw_ok := lw_ok_in (lw_g4 (List.mem_of_getElem? (i := 100) rfl)) rfl
theorem vs_X8_flows : Cond.selects yX8_flows.cls yX8_flows yX8_flows ∈ lw_ok := lw_ok_in (lw_g4 (List.mem_of_getElem? (i := 101) rfl)) rfl
theorem vk_X8_flows : vv_vok yX8_flows := ⟨vi_X8_flows, vs_X8_flows⟩
theorem cd_X8_odds : Cond.code yX8_odds cX8_odds 8 (some .int) ∈ lw_ok := lw_ok_in (lw_g4 (List.mem_of_getElem? (i := 111) rfl)) rfl
theorem yk_X8_odds : vv_yok yX8_odds cX8_odds 8 (some .int) 4 := ⟨cd_X8_odds, in_X8, by decide +kernel⟩
theorem vi_X8_odds : Cond.instanceMethod yX8_odds ∈ lw_ok := lw_ok_in (lw_g4 (List.mem_of_getElem? (i := 109) rfl)) rfl
theorem vs_X8_odds : Cond.selects yX8_odds.cls yX8_odds yX8_odds ∈ lw_ok := lw_ok_in (lw_g4 (List.mem_of_getElem? (i := 110) rfl)) rfl
theorem vk_X8_odds : vv_vok yX8_odds := ⟨vi_X8_odds, vs_X8_odds⟩
theorem cd_X8_holdsIn : Cond.code yX8_holdsIn cX8_holdsIn 6 (some .boolean) ∈ lw_ok := lw_ok_in (lw_g4 (List.mem_of_getElem? (i := 115) rfl)) rfl
theorem yk_X8_holdsIn : vv_yok yX8_holdsIn cX8_holdsIn 6 (some .boolean) 3 := ⟨cd_X8_holdsIn, in_X8, by decide +kernel⟩
theorem vi_X8_holdsIn : Cond.instanceMethod yX8_holdsIn ∈ lw_ok := lw_ok_in (lw_g4 (List.mem_of_getElem? (i := 114) rfl)) rfl
theorem vs_X8_holdsIn : Cond.selects yX8_holdsIn.cls yX8_holdsIn yX8_holdsIn ∈ lw_ok := lw_ok_in (lw_g0 (List.mem_of_getElem? (i := 18) rfl)) rfl
theorem vk_X8_holdsIn : vv_vok yX8_holdsIn := ⟨vi_X8_holdsIn, vs_X8_holdsIn⟩
theorem cd_X8_chanceOf : Cond.code yX8_chanceOf cX8_chanceOf 5 (some .int) ∈ lw_ok := lw_ok_in (lw_g4 (List.mem_of_getElem? (i := 119) rfl)) rfl
theorem yk_X8_chanceOf : vv_yok yX8_chanceOf cX8_chanceOf 5 (some .int) 3 := ⟨cd_X8_chanceOf, in_X8, by decide +kernel⟩
theorem sk_X8_chanceOf : Cond.static yX8_chanceOf ∈ lw_ok := lw_ok_in (lw_g4 (List.mem_of_getElem? (i := 118) rfl)) rfl
theorem cd_X8_greatestDivisor : Cond.code yX8_greatestDivisor cX8_greatestDivisor 6 (some .int) ∈ lw_ok := lw_ok_in (lw_g4 (List.mem_of_getElem? (i := 122) rfl)) rfl
theorem yk_X8_greatestDivisor : vv_yok yX8_greatestDivisor cX8_greatestDivisor 6 (some .int) 2 := ⟨cd_X8_greatestDivisor, in_X8, by decide +kernel⟩
theorem sk_X8_greatestDivisor : Cond.static yX8_greatestDivisor ∈ lw_ok := lw_ok_in (lw_g4 (List.mem_of_getElem? (i := 121) rfl)) rfl
theorem cd_X8_night : Cond.code yX8_night cX8_night 4 (some .int) ∈ lw_ok := lw_ok_in (lw_g4 (List.mem_of_getElem? (i := 126) rfl)) rfl
theorem yk_X8_night : vv_yok yX8_night cX8_night 4 (some .int) 2 := ⟨cd_X8_night, in_X8, by decide +kernel⟩
theorem vi_X8_night : Cond.instanceMethod yX8_night ∈ lw_ok := lw_ok_in (lw_g4 (List.mem_of_getElem? (i := 124) rfl)) rfl
theorem vs_X8_night : Cond.selects yX8_night.cls yX8_night yX8_night ∈ lw_ok := lw_ok_in (lw_g4 (List.mem_of_getElem? (i := 125) rfl)) rfl
theorem vk_X8_night : vv_vok yX8_night := ⟨vi_X8_night, vs_X8_night⟩
theorem cd_X8_drawOf : Cond.code yX8_drawOf cX8_drawOf 4 (some .int) ∈ lw_ok := lw_ok_in (lw_g4 (List.mem_of_getElem? (i := 129) rfl)) rfl
theorem yk_X8_drawOf : vv_yok yX8_drawOf cX8_drawOf 4 (some .int) 2 := ⟨cd_X8_drawOf, in_X8, by decide +kernel⟩
theorem sk_X8_drawOf : Cond.static yX8_drawOf ∈ lw_ok := lw_ok_in (lw_g4 (List.mem_of_getElem? (i := 128) rfl)) rfl
theorem cd_X8_keep : Cond.code yX8_keep cX8_keep 1 (some .int) ∈ lw_ok := lw_ok_in (lw_g4 (List.mem_of_getElem? (i := 137) rfl)) rfl
theorem yk_X8_keep : vv_yok yX8_keep cX8_keep 1 (some .int) 0 := ⟨cd_X8_keep, in_X8, by decide +kernel⟩
theorem vi_X8_keep : Cond.instanceMethod yX8_keep ∈ lw_ok := lw_ok_in (lw_g4 (List.mem_of_getElem? (i := 135) rfl)) rfl
theorem vs_X8_keep : Cond.selects yX8_keep.cls yX8_keep yX8_keep ∈ lw_ok := lw_ok_in (lw_g4 (List.mem_of_getElem? (i := 136) rfl)) rfl
theorem vk_X8_keep : vv_vok yX8_keep := ⟨vi_X8_keep, vs_X8_keep⟩
theorem cd_X8_back : Cond.code yX8_back cX8_back 1 (some .int) ∈ lw_ok := lw_ok_in (lw_g4 (List.mem_of_getElem? (i := 145) rfl)) rfl
theorem yk_X8_back : vv_yok yX8_back cX8_back 1 (some .int) 0 := ⟨cd_X8_back, in_X8, by decide +kernel⟩
theorem vi_X8_back : Cond.instanceMethod yX8_back ∈ lw_ok := lw_ok_in (lw_g4 (List.mem_of_getElem? (i := 143) rfl)) rfl
theorem vs_X8_back : Cond.selects yX8_back.cls yX8_back yX8_back ∈ lw_ok := lw_ok_in (lw_g4 (List.mem_of_getElem? (i := 144) rfl)) rfl
theorem vk_X8_back : vv_vok yX8_back := ⟨vi_X8_back, vs_X8_back⟩
theorem cd_X8_count : Cond.code yX8_count cX8_count 2 (some .int) ∈ lw_ok := lw_ok_in (lw_g4 (List.mem_of_getElem? (i := 149) rfl)) rfl
theorem yk_X8_count : vv_yok yX8_count cX8_count 2 (some .int) 1 := ⟨cd_X8_count, in_X8, by decide +kernel⟩
theorem vi_X8_count : Cond.instanceMethod yX8_count ∈ lw_ok := lw_ok_in (lw_g4 (List.mem_of_getElem? (i := 147) rfl)) rfl
theorem vs_X8_count : Cond.selects yX8_count.cls yX8_count yX8_count ∈ lw_ok := lw_ok_in (lw_g4 (List.mem_of_getElem? (i := 148) rfl)) rfl
theorem vk_X8_count : vv_vok yX8_count := ⟨vi_X8_count, vs_X8_count⟩
theorem cd_X8_isCell : Cond.code yX8_isCell cX8_isCell 2 (some .boolean) ∈ lw_ok := lw_ok_in (lw_g3 (List.mem_of_getElem? (i := 22) rfl)) rfl
theorem yk_X8_isCell : vv_yok yX8_isCell cX8_isCell 2 (some .boolean) 1 := ⟨cd_X8_isCell, in_X8, by decide +kernel⟩
theorem vi_X8_isCell : Cond.instanceMethod yX8_isCell ∈ lw_ok := lw_ok_in (lw_g3 (List.mem_of_getElem? (i := 21) rfl)) rfl
theorem vs_X8_isCell : Cond.selects yX8_isCell.cls yX8_isCell yX8_isCell ∈ lw_ok := lw_ok_in (lw_g0 (List.mem_of_getElem? (i := 10) rfl)) rfl
theorem vk_X8_isCell : vv_vok yX8_isCell := ⟨vi_X8_isCell, vs_X8_isCell⟩
theorem cd_X8_isStuff : Cond.code yX8_isStuff cX8_isStuff 1 (some .boolean) ∈ lw_ok := lw_ok_in (lw_g2 (List.mem_of_getElem? (i := 111) rfl)) rfl
theorem yk_X8_isStuff : vv_yok yX8_isStuff cX8_isStuff 1 (some .boolean) 1 := ⟨cd_X8_isStuff, in_X8, by decide +kernel⟩
theorem sk_X8_isStuff : Cond.static yX8_isStuff ∈ lw_ok := lw_ok_in (lw_g2 (List.mem_of_getElem? (i := 110) rfl)) rfl
theorem cd_X8_isWithin : Cond.code yX8_isWithin cX8_isWithin 3 (some .boolean) ∈ lw_ok := lw_ok_in (lw_g2 (List.mem_of_getElem? (i := 114) rfl)) rfl
theorem yk_X8_isWithin : vv_yok yX8_isWithin cX8_isWithin 3 (some .boolean) 3 := ⟨cd_X8_isWithin, in_X8, by decide +kernel⟩
theorem sk_X8_isWithin : Cond.static yX8_isWithin ∈ lw_ok := lw_ok_in (lw_g2 (List.mem_of_getElem? (i := 113) rfl)) rfl
theorem cd_X9_init : Cond.code yX9_init cX9_init 1 none ∈ lw_ok := lw_ok_in (lw_g4 (List.mem_of_getElem? (i := 158) rfl)) rfl
theorem yk_X9_init : vv_yok yX9_init cX9_init 1 none 0 := ⟨cd_X9_init, in_X9, by decide +kernel⟩
theorem cd_X9_in : Cond.code yX9_in cX9_in 6 (some .boolean) ∈ lw_ok := lw_ok_in (lw_g4 (List.mem_of_getElem? (i := 190) rfl)) rfl
theorem yk_X9_in : vv_yok yX9_in cX9_in 6 (some .boolean) 3 := ⟨cd_X9_in, in_X9, by decide +kernel⟩
theorem sk_X9_in : Cond.static yX9_in ∈ lw_ok := lw_ok_in (lw_g4 (List.mem_of_getElem? (i := 189) rfl)) rfl
theorem cd_X9_noDam : Cond.code yX9_noDam cX9_noDam 2 none ∈ lw_ok := lw_ok_in (lw_g4 (List.mem_of_getElem? (i := 163) rfl)) rfl
theorem yk_X9_noDam : vv_yok yX9_noDam cX9_noDam 2 none 1 := ⟨cd_X9_noDam, in_X9, by decide +kernel⟩
theorem vi_X9_noDam : Cond.instanceMethod yX9_noDam ∈ lw_ok := lw_ok_in (lw_g4 (List.mem_of_getElem? (i := 162) rfl)) rfl
theorem vs_X9_noDam : Cond.selects yX9_noDam.cls yX9_noDam yX9_noDam ∈ lw_ok := lw_ok_in (lw_g0 (List.mem_of_getElem? (i := 19) rfl)) rfl
theorem vk_X9_noDam : vv_vok yX9_noDam := ⟨vi_X9_noDam, vs_X9_noDam⟩
theorem cd_X9_write : Cond.code yX9_write cX9_write 2 (some .int) ∈ lw_ok := lw_ok_in (lw_g5 (List.mem_of_getElem? (i := 119) rfl)) rfl
theorem yk_X9_write : vv_yok yX9_write cX9_write 2 (some .int) 1 := ⟨cd_X9_write, in_X9, by decide +kernel⟩
theorem vi_X9_write : Cond.instanceMethod yX9_write ∈ lw_ok := lw_ok_in (lw_g5 (List.mem_of_getElem? (i := 117) rfl)) rfl
theorem vs_X9_write : Cond.selects yX9_write.cls yX9_write yX9_write ∈ lw_ok := lw_ok_in (lw_g5 (List.mem_of_getElem? (i := 118) rfl)) rfl
theorem vk_X9_write : vv_vok yX9_write := ⟨vi_X9_write, vs_X9_write⟩
theorem cd_X9_wipe : Cond.code yX9_wipe cX9_wipe 2 (some .int) ∈ lw_ok := lw_ok_in (lw_g5 (List.mem_of_getElem? (i := 125) rfl)) rfl
theorem yk_X9_wipe : vv_yok yX9_wipe cX9_wipe 2 (some .int) 0 := ⟨cd_X9_wipe, in_X9, by decide +kernel⟩
theorem vi_X9_wipe : Cond.instanceMethod yX9_wipe ∈ lw_ok := lw_ok_in (lw_g5 (List.mem_of_getElem? (i := 123) rfl)) rfl
theorem vs_X9_wipe : Cond.selects yX9_wipe.cls yX9_wipe yX9_wipe ∈ lw_ok := lw_ok_in (lw_g5 (List.mem_of_getElem? (i := 124) rfl)) rfl
theorem vk_X9_wipe : vv_vok yX9_wipe := ⟨vi_X9_wipe, vs_X9_wipe⟩
theorem cd_X9_letterAt : Cond.code yX9_letterAt cX9_letterAt 2 (some .int) ∈ lw_ok := lw_ok_in (lw_g5 (List.mem_of_getElem? (i := 141) rfl)) rfl
theorem yk_X9_letterAt : vv_yok yX9_letterAt cX9_letterAt 2 (some .int) 1 := ⟨cd_X9_letterAt, in_X9, by decide +kernel⟩
theorem vi_X9_letterAt : Cond.instanceMethod yX9_letterAt ∈ lw_ok := lw_ok_in (lw_g5 (List.mem_of_getElem? (i := 140) rfl)) rfl
theorem vs_X9_letterAt : Cond.selects yX9_letterAt.cls yX9_letterAt yX9_letterAt ∈ lw_ok := lw_ok_in (lw_g0 (List.mem_of_getElem? (i := 33) rfl)) rfl
theorem vk_X9_letterAt : vv_vok yX9_letterAt := ⟨vi_X9_letterAt, vs_X9_letterAt⟩
theorem cd_X9_figures : Cond.code yX9_figures cX9_figures 5 (some .boolean) ∈ lw_ok := lw_ok_in (lw_g5 (List.mem_of_getElem? (i := 149) rfl)) rfl
theorem yk_X9_figures : vv_yok yX9_figures cX9_figures 5 (some .boolean) 1 := ⟨cd_X9_figures, in_X9, by decide +kernel⟩
theorem vi_X9_figures : Cond.instanceMethod yX9_figures ∈ lw_ok := lw_ok_in (lw_g5 (List.mem_of_getElem? (i := 148) rfl)) rfl
theorem vs_X9_figures : Cond.selects yX9_figures.cls yX9_figures yX9_figures ∈ lw_ok := lw_ok_in (lw_g0 (List.mem_of_getElem? (i := 35) rfl)) rfl
theorem vk_X9_figures : vv_vok yX9_figures := ⟨vi_X9_figures, vs_X9_figures⟩
theorem cd_X9_cellItem : Cond.code yX9_cellItem cX9_cellItem 1 (some .boolean) ∈ lw_ok := lw_ok_in (lw_g5 (List.mem_of_getElem? (i := 145) rfl)) rfl
theorem yk_X9_cellItem : vv_yok yX9_cellItem cX9_cellItem 1 (some .boolean) 0 := ⟨cd_X9_cellItem, in_X9, by decide +kernel⟩
theorem vi_X9_cellItem : Cond.instanceMethod yX9_cellItem ∈ lw_ok := lw_ok_in (lw_g5 (List.mem_of_getElem? (i := 144) rfl)) rfl
theorem vs_X9_cellItem : Cond.selects yX9_cellItem.cls yX9_cellItem yX9_cellItem ∈ lw_ok := lw_ok_in (lw_g0 (List.mem_of_getElem? (i := 34) rfl)) rfl
theorem vk_X9_cellItem : vv_vok yX9_cellItem := ⟨vi_X9_cellItem, vs_X9_cellItem⟩
theorem cd_X9_flowItem : Cond.code yX9_flowItem cX9_flowItem 1 (some .boolean) ∈ lw_ok := lw_ok_in (lw_g5 (List.mem_of_getElem? (i := 157) rfl)) rfl
theorem yk_X9_flowItem : vv_yok yX9_flowItem cX9_flowItem 1 (some .boolean) 0 := ⟨cd_X9_flowItem, in_X9, by decide +kernel⟩
theorem vi_X9_flowItem : Cond.instanceMethod yX9_flowItem ∈ lw_ok := lw_ok_in (lw_g5 (List.mem_of_getElem? (i := 156) rfl)) rfl
theorem vs_X9_flowItem : Cond.selects yX9_flowItem.cls yX9_flowItem yX9_flowItem ∈ lw_ok := lw_ok_in (lw_g0 (List.mem_of_getElem? (i := 36) rfl)) rfl
theorem vk_X9_flowItem : vv_vok yX9_flowItem := ⟨vi_X9_flowItem, vs_X9_flowItem⟩
theorem cd_X9_rainItem : Cond.code yX9_rainItem cX9_rainItem 1 (some .boolean) ∈ lw_ok := lw_ok_in (lw_g5 (List.mem_of_getElem? (i := 161) rfl)) rfl
theorem yk_X9_rainItem : vv_yok yX9_rainItem cX9_rainItem 1 (some .boolean) 0 := ⟨cd_X9_rainItem, in_X9, by decide +kernel⟩
theorem vi_X9_rainItem : Cond.instanceMethod yX9_rainItem ∈ lw_ok := lw_ok_in (lw_g5 (List.mem_of_getElem? (i := 160) rfl)) rfl
theorem vs_X9_rainItem : Cond.selects yX9_rainItem.cls yX9_rainItem yX9_rainItem ∈ lw_ok := lw_ok_in (lw_g0 (List.mem_of_getElem? (i := 37) rfl)) rfl
theorem vk_X9_rainItem : vv_vok yX9_rainItem := ⟨vi_X9_rainItem, vs_X9_rainItem⟩
theorem cd_X9_childItem : Cond.code yX9_childItem cX9_childItem 3 (some .boolean) ∈ lw_ok := lw_ok_in (lw_g5 (List.mem_of_getElem? (i := 165) rfl)) rfl
theorem yk_X9_childItem : vv_yok yX9_childItem cX9_childItem 3 (some .boolean) 0 := ⟨cd_X9_childItem, in_X9, by decide +kernel⟩
theorem vi_X9_childItem : Cond.instanceMethod yX9_childItem ∈ lw_ok := lw_ok_in (lw_g5 (List.mem_of_getElem? (i := 164) rfl)) rfl
theorem vs_X9_childItem : Cond.selects yX9_childItem.cls yX9_childItem yX9_childItem ∈ lw_ok := lw_ok_in (lw_g0 (List.mem_of_getElem? (i := 38) rfl)) rfl
theorem vk_X9_childItem : vv_vok yX9_childItem := ⟨vi_X9_childItem, vs_X9_childItem⟩
theorem cd_X9_jobItem : Cond.code yX9_jobItem cX9_jobItem 1 (some .boolean) ∈ lw_ok := lw_ok_in (lw_g5 (List.mem_of_getElem? (i := 169) rfl)) rfl
theorem yk_X9_jobItem : vv_yok yX9_jobItem cX9_jobItem 1 (some .boolean) 0 := ⟨cd_X9_jobItem, in_X9, by decide +kernel⟩
theorem vi_X9_jobItem : Cond.instanceMethod yX9_jobItem ∈ lw_ok := lw_ok_in (lw_g5 (List.mem_of_getElem? (i := 168) rfl)) rfl
theorem vs_X9_jobItem : Cond.selects yX9_jobItem.cls yX9_jobItem yX9_jobItem ∈ lw_ok := lw_ok_in (lw_g0 (List.mem_of_getElem? (i := 39) rfl)) rfl
theorem vk_X9_jobItem : vv_vok yX9_jobItem := ⟨vi_X9_jobItem, vs_X9_jobItem⟩
theorem cd_X9_item : Cond.code yX9_item cX9_item 2 (some .boolean) ∈ lw_ok := lw_ok_in (lw_g5 (List.mem_of_getElem? (i := 137) rfl)) rfl
theorem yk_X9_item : vv_yok yX9_item cX9_item 2 (some .boolean) 0 := ⟨cd_X9_item, in_X9, by decide +kernel⟩
theorem vi_X9_item : Cond.instanceMethod yX9_item ∈ lw_ok := lw_ok_in (lw_g5 (List.mem_of_getElem? (i := 136) rfl)) rfl
theorem vs_X9_item : Cond.selects yX9_item.cls yX9_item yX9_item ∈ lw_ok := lw_ok_in (lw_g0 (List.mem_of_getElem? (i := 32) rfl)) rfl
theorem vk_X9_item : vv_vok yX9_item := ⟨vi_X9_item, vs_X9_item⟩
theorem cd_X9_readAll : Cond.code yX9_readAll cX9_readAll 2 (some .int) ∈ lw_ok := lw_ok_in (lw_g5 (List.mem_of_getElem? (i := 133) rfl)) rfl
theorem yk_X9_readAll : vv_yok yX9_readAll cX9_readAll 2 (some .int) 0 := ⟨cd_X9_readAll, in_X9, by decide +kernel⟩
theorem vi_X9_readAll : Cond.instanceMethod yX9_readAll ∈ lw_ok := lw_ok_in (lw_g5 (List.mem_of_getElem? (i := 132) rfl)) rfl
theorem vs_X9_readAll : Cond.selects yX9_readAll.cls yX9_readAll yX9_readAll ∈ lw_ok := lw_ok_in (lw_g0 (List.mem_of_getElem? (i := 31) rfl)) rfl
theorem vk_X9_readAll : vv_vok yX9_readAll := ⟨vi_X9_readAll, vs_X9_readAll⟩
theorem cd_X9_fault : Cond.code yX9_fault cX9_fault 1 (some .int) ∈ lw_ok := lw_ok_in (lw_g5 (List.mem_of_getElem? (i := 129) rfl)) rfl
theorem yk_X9_fault : vv_yok yX9_fault cX9_fault 1 (some .int) 0 := ⟨cd_X9_fault, in_X9, by decide +kernel⟩
theorem vi_X9_fault : Cond.instanceMethod yX9_fault ∈ lw_ok := lw_ok_in (lw_g5 (List.mem_of_getElem? (i := 127) rfl)) rfl
theorem vs_X9_fault : Cond.selects yX9_fault.cls yX9_fault yX9_fault ∈ lw_ok := lw_ok_in (lw_g5 (List.mem_of_getElem? (i := 128) rfl)) rfl
theorem vk_X9_fault : vv_vok yX9_fault := ⟨vi_X9_fault, vs_X9_fault⟩
theorem cd_X9_laid : Cond.code yX9_laid cX9_laid 2 (some .int) ∈ lw_ok := lw_ok_in (lw_g5 (List.mem_of_getElem? (i := 174) rfl)) rfl
theorem yk_X9_laid : vv_yok yX9_laid cX9_laid 2 (some .int) 0 := ⟨cd_X9_laid, in_X9, by decide +kernel⟩
theorem vi_X9_laid : Cond.instanceMethod yX9_laid ∈ lw_ok := lw_ok_in (lw_g5 (List.mem_of_getElem? (i := 172) rfl)) rfl
theorem vs_X9_laid : Cond.selects yX9_laid.cls yX9_laid yX9_laid ∈ lw_ok := lw_ok_in (lw_g5 (List.mem_of_getElem? (i := 173) rfl)) rfl
theorem vk_X9_laid : vv_vok yX9_laid := ⟨vi_X9_laid, vs_X9_laid⟩
theorem cd_X9_isCell : Cond.code yX9_isCell cX9_isCell 2 (some .boolean) ∈ lw_ok := lw_ok_in (lw_g5 (List.mem_of_getElem? (i := 182) rfl)) rfl
theorem yk_X9_isCell : vv_yok yX9_isCell cX9_isCell 2 (some .boolean) 1 := ⟨cd_X9_isCell, in_X9, by decide +kernel⟩
theorem vi_X9_isCell : Cond.instanceMethod yX9_isCell ∈ lw_ok := lw_ok_in (lw_g5 (List.mem_of_getElem? (i := 181) rfl)) rfl
theorem vs_X9_isCell : Cond.selects yX9_isCell.cls yX9_isCell yX9_isCell ∈ lw_ok := lw_ok_in (lw_g0 (List.mem_of_getElem? (i := 40) rfl)) rfl
theorem vk_X9_isCell : vv_vok yX9_isCell := ⟨vi_X9_isCell, vs_X9_isCell⟩
theorem cd_X9_takes : Cond.code yX9_takes cX9_takes 4 (some .int) ∈ lw_ok := lw_ok_in (lw_g4 (List.mem_of_getElem? (i := 198) rfl)) rfl
theorem yk_X9_takes : vv_yok yX9_takes cX9_takes 4 (some .int) 1 := ⟨cd_X9_takes, in_X9, by decide +kernel⟩
theorem vi_X9_takes : Cond.instanceMethod yX9_takes ∈ lw_ok := lw_ok_in (lw_g4 (List.mem_of_getElem? (i := 197) rfl)) rfl
theorem vs_X9_takes : Cond.selects yX9_takes.cls yX9_takes yX9_takes ∈ lw_ok := lw_ok_in (lw_g0 (List.mem_of_getElem? (i := 27) rfl)) rfl
theorem vk_X9_takes : vv_vok yX9_takes := ⟨vi_X9_takes, vs_X9_takes⟩
theorem cd_X9_levelOf : Cond.code yX9_levelOf cX9_levelOf 3 (some .int) ∈ lw_ok := lw_ok_in (lw_g4 (List.mem_of_getElem? (i := 194) rfl)) rfl
theorem yk_X9_levelOf : vv_yok yX9_levelOf cX9_levelOf 3 (some .int) 1 := ⟨cd_X9_levelOf, in_X9, by decide +kernel⟩
theorem vi_X9_levelOf : Cond.instanceMethod yX9_levelOf ∈ lw_ok := lw_ok_in (lw_g4 (List.mem_of_getElem? (i := 193) rfl)) rfl
theorem vs_X9_levelOf : Cond.selects yX9_levelOf.cls yX9_levelOf yX9_levelOf ∈ lw_ok := lw_ok_in (lw_g0 (List.mem_of_getElem? (i := 26) rfl)) rfl
theorem vk_X9_levelOf : vv_vok yX9_levelOf := ⟨vi_X9_levelOf, vs_X9_levelOf⟩
theorem cd_X9_comesIn : Cond.code yX9_comesIn cX9_comesIn 5 (some .int) ∈ lw_ok := lw_ok_in (lw_g4 (List.mem_of_getElem? (i := 187) rfl)) rfl
theorem yk_X9_comesIn : vv_yok yX9_comesIn cX9_comesIn 5 (some .int) 1 := ⟨cd_X9_comesIn, in_X9, by decide +kernel⟩
theorem vi_X9_comesIn : Cond.instanceMethod yX9_comesIn ∈ lw_ok := lw_ok_in (lw_g4 (List.mem_of_getElem? (i := 186) rfl)) rfl
theorem vs_X9_comesIn : Cond.selects yX9_comesIn.cls yX9_comesIn yX9_comesIn ∈ lw_ok := lw_ok_in (lw_g0 (List.mem_of_getElem? (i := 25) rfl)) rfl
theorem vk_X9_comesIn : vv_vok yX9_comesIn := ⟨vi_X9_comesIn, vs_X9_comesIn⟩
theorem cd_X9_edgeOf : Cond.code yX9_edgeOf cX9_edgeOf 4 (some .int) ∈ lw_ok := lw_ok_in (lw_g4 (List.mem_of_getElem? (i := 202) rfl)) rfl
theorem yk_X9_edgeOf : vv_yok yX9_edgeOf cX9_edgeOf 4 (some .int) 1 := ⟨cd_X9_edgeOf, in_X9, by decide +kernel⟩
theorem vi_X9_edgeOf : Cond.instanceMethod yX9_edgeOf ∈ lw_ok := lw_ok_in (lw_g4 (List.mem_of_getElem? (i := 201) rfl)) rfl
theorem vs_X9_edgeOf : Cond.selects yX9_edgeOf.cls yX9_edgeOf yX9_edgeOf ∈ lw_ok := lw_ok_in (lw_g0 (List.mem_of_getElem? (i := 28) rfl)) rfl
theorem vk_X9_edgeOf : vv_vok yX9_edgeOf := ⟨vi_X9_edgeOf, vs_X9_edgeOf⟩
theorem cd_X9_placeOf : Cond.code yX9_placeOf cX9_placeOf 4 (some .int) ∈ lw_ok := lw_ok_in (lw_g4 (List.mem_of_getElem? (i := 206) rfl)) rfl
theorem yk_X9_placeOf : vv_yok yX9_placeOf cX9_placeOf 4 (some .int) 1 := ⟨cd_X9_placeOf, in_X9, by decide +kernel⟩
theorem vi_X9_placeOf : Cond.instanceMethod yX9_placeOf ∈ lw_ok := lw_ok_in (lw_g4 (List.mem_of_getElem? (i := 205) rfl)) rfl
theorem vs_X9_placeOf : Cond.selects yX9_placeOf.cls yX9_placeOf yX9_placeOf ∈ lw_ok := lw_ok_in (lw_g0 (List.mem_of_getElem? (i := 29) rfl)) rfl
theorem vk_X9_placeOf : vv_vok yX9_placeOf := ⟨vi_X9_placeOf, vs_X9_placeOf⟩
theorem cd_X9_wear : Cond.code yX9_wear cX9_wear 6 none ∈ lw_ok := lw_ok_in (lw_g4 (List.mem_of_getElem? (i := 210) rfl)) rfl
theorem yk_X9_wear : vv_yok yX9_wear cX9_wear 6 none 2 := ⟨cd_X9_wear, in_X9, by decide +kernel⟩
theorem vi_X9_wear : Cond.instanceMethod yX9_wear ∈ lw_ok := lw_ok_in (lw_g4 (List.mem_of_getElem? (i := 209) rfl)) rfl
theorem vs_X9_wear : Cond.selects yX9_wear.cls yX9_wear yX9_wear ∈ lw_ok := lw_ok_in (lw_g0 (List.mem_of_getElem? (i := 30) rfl)) rfl
theorem vk_X9_wear : vv_vok yX9_wear := ⟨vi_X9_wear, vs_X9_wear⟩
theorem cd_X9_go : Cond.code yX9_go cX9_go 7 none ∈ lw_ok := lw_ok_in (lw_g4 (List.mem_of_getElem? (i := 183) rfl)) rfl
theorem yk_X9_go : vv_yok yX9_go cX9_go 7 none 2 := ⟨cd_X9_go, in_X9, by decide +kernel⟩
theorem vi_X9_go : Cond.instanceMethod yX9_go ∈ lw_ok := lw_ok_in (lw_g4 (List.mem_of_getElem? (i := 182) rfl)) rfl
theorem vs_X9_go : Cond.selects yX9_go.cls yX9_go yX9_go ∈ lw_ok := lw_ok_in (lw_g0 (List.mem_of_getElem? (i := 24) rfl)) rfl
theorem vk_X9_go : vv_vok yX9_go := ⟨vi_X9_go, vs_X9_go⟩
theorem cd_X9_canDo : Cond.code yX9_canDo cX9_canDo 4 (some .boolean) ∈ lw_ok := lw_ok_in (lw_g4 (List.mem_of_getElem? (i := 175) rfl)) rfl
theorem yk_X9_canDo : vv_yok yX9_canDo cX9_canDo 4 (some .boolean) 2 := ⟨cd_X9_canDo, in_X9, by decide +kernel⟩
theorem vi_X9_canDo : Cond.instanceMethod yX9_canDo ∈ lw_ok := lw_ok_in (lw_g4 (List.mem_of_getElem? (i := 174) rfl)) rfl
theorem vs_X9_canDo : Cond.selects yX9_canDo.cls yX9_canDo yX9_canDo ∈ lw_ok := lw_ok_in (lw_g0 (List.mem_of_getElem? (i := 22) rfl)) rfl
theorem vk_X9_canDo : vv_vok yX9_canDo := ⟨vi_X9_canDo, vs_X9_canDo⟩
theorem cd_X9_doAct : Cond.code yX9_doAct cX9_doAct 5 none ∈ lw_ok := lw_ok_in (lw_g4 (List.mem_of_getElem? (i := 179) rfl)) rfl
theorem yk_X9_doAct : vv_yok yX9_doAct cX9_doAct 5 none 2 := ⟨cd_X9_doAct, in_X9, by decide +kernel⟩
theorem vi_X9_doAct : Cond.instanceMethod yX9_doAct ∈ lw_ok := lw_ok_in (lw_g4 (List.mem_of_getElem? (i := 178) rfl)) rfl
theorem vs_X9_doAct : Cond.selects yX9_doAct.cls yX9_doAct yX9_doAct ∈ lw_ok := lw_ok_in (lw_g0 (List.mem_of_getElem? (i := 23) rfl)) rfl
theorem vk_X9_doAct : vv_vok yX9_doAct := ⟨vi_X9_doAct, vs_X9_doAct⟩
theorem cd_X9_beginBut : Cond.code yX9_beginBut cX9_beginBut 4 none ∈ lw_ok := lw_ok_in (lw_g4 (List.mem_of_getElem? (i := 171) rfl)) rfl
theorem yk_X9_beginBut : vv_yok yX9_beginBut cX9_beginBut 4 none 2 := ⟨cd_X9_beginBut, in_X9, by decide +kernel⟩
theorem vi_X9_beginBut : Cond.instanceMethod yX9_beginBut ∈ lw_ok := lw_ok_in (lw_g4 (List.mem_of_getElem? (i := 170) rfl)) rfl
theorem vs_X9_beginBut : Cond.selects yX9_beginBut.cls yX9_beginBut yX9_beginBut ∈ lw_ok := lw_ok_in (lw_g0 (List.mem_of_getElem? (i := 21) rfl)) rfl
theorem vk_X9_beginBut : vv_vok yX9_beginBut := ⟨vi_X9_beginBut, vs_X9_beginBut⟩
theorem cd_X9_begin : Cond.code yX9_begin cX9_begin 1 none ∈ lw_ok := lw_ok_in (lw_g4 (List.mem_of_getElem? (i := 167) rfl)) rfl
theorem yk_X9_begin : vv_yok yX9_begin cX9_begin 1 none 0 := ⟨cd_X9_begin, in_X9, by decide +kernel⟩
theorem vi_X9_begin : Cond.instanceMethod yX9_begin ∈ lw_ok := lw_ok_in (lw_g4 (List.mem_of_getElem? (i := 166) rfl)) rfl
theorem vs_X9_begin : Cond.selects yX9_begin.cls yX9_begin yX9_begin ∈ lw_ok := lw_ok_in (lw_g0 (List.mem_of_getElem? (i := 20) rfl)) rfl
theorem vk_X9_begin : vv_vok yX9_begin := ⟨vi_X9_begin, vs_X9_begin⟩
theorem cd_X9_tryIt : Cond.code yX9_tryIt cX9_tryIt 2 none ∈ lw_ok := lw_ok_in (lw_g5 (List.mem_of_getElem? (i := 234) rfl)) rfl
theorem yk_X9_tryIt : vv_yok yX9_tryIt cX9_tryIt 2 none 0 := ⟨cd_X9_tryIt, in_X9, by decide +kernel⟩
theorem vi_X9_tryIt : Cond.instanceMethod yX9_tryIt ∈ lw_ok := lw_ok_in (lw_g5 (List.mem_of_getElem? (i := 233) rfl)) rfl
theorem vs_X9_tryIt : Cond.selects yX9_tryIt.cls yX9_tryIt yX9_tryIt ∈ lw_ok := lw_ok_in (lw_g0 (List.mem_of_getElem? (i := 43) rfl)) rfl
theorem vk_X9_tryIt : vv_vok yX9_tryIt := ⟨vi_X9_tryIt, vs_X9_tryIt⟩
theorem cd_X9_cell : Cond.code yX9_cell cX9_cell 3 (some .int) ∈ lw_ok := lw_ok_in (lw_g5 (List.mem_of_getElem? (i := 178) rfl)) rfl
theorem yk_X9_cell : vv_yok yX9_cell cX9_cell 3 (some .int) 2 := ⟨cd_X9_cell, in_X9, by decide +kernel⟩
theorem vi_X9_cell : Cond.instanceMethod yX9_cell ∈ lw_ok := lw_ok_in (lw_g5 (List.mem_of_getElem? (i := 176) rfl)) rfl
theorem vs_X9_cell : Cond.selects yX9_cell.cls yX9_cell yX9_cell ∈ lw_ok := lw_ok_in (lw_g5 (List.mem_of_getElem? (i := 177) rfl)) rfl
theorem vk_X9_cell : vv_vok yX9_cell := ⟨vi_X9_cell, vs_X9_cell⟩
theorem cd_X9_lake : Cond.code yX9_lake cX9_lake 2 (some .int) ∈ lw_ok := lw_ok_in (lw_g5 (List.mem_of_getElem? (i := 186) rfl)) rfl
theorem yk_X9_lake : vv_yok yX9_lake cX9_lake 2 (some .int) 1 := ⟨cd_X9_lake, in_X9, by decide +kernel⟩
theorem vi_X9_lake : Cond.instanceMethod yX9_lake ∈ lw_ok := lw_ok_in (lw_g5 (List.mem_of_getElem? (i := 184) rfl)) rfl
theorem vs_X9_lake : Cond.selects yX9_lake.cls yX9_lake yX9_lake ∈ lw_ok := lw_ok_in (lw_g5 (List.mem_of_getElem? (i := 185) rfl)) rfl
theorem vk_X9_lake : vv_vok yX9_lake := ⟨vi_X9_lake, vs_X9_lake⟩
theorem cd_X9_edge : Cond.code yX9_edge cX9_edge 2 (some .int) ∈ lw_ok := lw_ok_in (lw_g5 (List.mem_of_getElem? (i := 190) rfl)) rfl
theorem yk_X9_edge : vv_yok yX9_edge cX9_edge 2 (some .int) 1 := ⟨cd_X9_edge, in_X9, by decide +kernel⟩
theorem vi_X9_edge : Cond.instanceMethod yX9_edge ∈ lw_ok := lw_ok_in (lw_g5 (List.mem_of_getElem? (i := 188) rfl)) rfl
theorem vs_X9_edge : Cond.selects yX9_edge.cls yX9_edge yX9_edge ∈ lw_ok := lw_ok_in (lw_g5 (List.mem_of_getElem? (i := 189) rfl)) rfl
theorem vk_X9_edge : vv_vok yX9_edge := ⟨vi_X9_edge, vs_X9_edge⟩
theorem cd_X9_comes : Cond.code yX9_comes cX9_comes 2 (some .int) ∈ lw_ok := lw_ok_in (lw_g5 (List.mem_of_getElem? (i := 194) rfl)) rfl
theorem yk_X9_comes : vv_yok yX9_comes cX9_comes 2 (some .int) 1 := ⟨cd_X9_comes, in_X9, by decide +kernel⟩
theorem vi_X9_comes : Cond.instanceMethod yX9_comes ∈ lw_ok := lw_ok_in (lw_g5 (List.mem_of_getElem? (i := 192) rfl)) rfl
theorem vs_X9_comes : Cond.selects yX9_comes.cls yX9_comes yX9_comes ∈ lw_ok := lw_ok_in (lw_g5 (List.mem_of_getElem? (i := 193) rfl)) rfl
theorem vk_X9_comes : vv_vok yX9_comes := ⟨vi_X9_comes, vs_X9_comes⟩
theorem cd_X9_note : Cond.code yX9_note cX9_note 6 none ∈ lw_ok := lw_ok_in (lw_g5 (List.mem_of_getElem? (i := 205) rfl)) rfl
theorem yk_X9_note : vv_yok yX9_note cX9_note 6 none 4 := ⟨cd_X9_note, in_X9, by decide +kernel⟩
theorem vi_X9_note : Cond.instanceMethod yX9_note ∈ lw_ok := lw_ok_in (lw_g5 (List.mem_of_getElem? (i := 204) rfl)) rfl
theorem vs_X9_note : Cond.selects yX9_note.cls yX9_note yX9_note ∈ lw_ok := lw_ok_in (lw_g0 (List.mem_of_getElem? (i := 41) rfl)) rfl
theorem vk_X9_note : vv_vok yX9_note := ⟨vi_X9_note, vs_X9_note⟩
theorem cd_X9_put : Cond.code yX9_put cX9_put 4 (some .int) ∈ lw_ok := lw_ok_in (lw_g5 (List.mem_of_getElem? (i := 199) rfl)) rfl
theorem yk_X9_put : vv_yok yX9_put cX9_put 4 (some .int) 3 := ⟨cd_X9_put, in_X9, by decide +kernel⟩
theorem vi_X9_put : Cond.instanceMethod yX9_put ∈ lw_ok := lw_ok_in (lw_g5 (List.mem_of_getElem? (i := 197) rfl)) rfl
theorem vs_X9_put : Cond.selects yX9_put.cls yX9_put yX9_put ∈ lw_ok := lw_ok_in (lw_g5 (List.mem_of_getElem? (i := 198) rfl)) rfl
theorem vk_X9_put : vv_vok yX9_put := ⟨vi_X9_put, vs_X9_put⟩
theorem cd_X9_dig : Cond.code yX9_dig cX9_dig 3 (some .int) ∈ lw_ok := lw_ok_in (lw_g5 (List.mem_of_getElem? (i := 209) rfl)) rfl
theorem yk_X9_dig : vv_yok yX9_dig cX9_dig 3 (some .int) 2 := ⟨cd_X9_dig, in_X9, by decide +kernel⟩
theorem vi_X9_dig : Cond.instanceMethod yX9_dig ∈ lw_ok := lw_ok_in (lw_g5 (List.mem_of_getElem? (i := 207) rfl)) rfl
theorem vs_X9_dig : Cond.selects yX9_dig.cls yX9_dig yX9_dig ∈ lw_ok := lw_ok_in (lw_g5 (List.mem_of_getElem? (i := 208) rfl)) rfl
theorem vk_X9_dig : vv_vok yX9_dig := ⟨vi_X9_dig, vs_X9_dig⟩
theorem cd_X9_pass : Cond.code yX9_pass cX9_pass 2 (some .int) ∈ lw_ok := lw_ok_in (lw_g5 (List.mem_of_getElem? (i := 213) rfl)) rfl
theorem yk_X9_pass : vv_yok yX9_pass cX9_pass 2 (some .int) 1 := ⟨cd_X9_pass, in_X9, by decide +kernel⟩
theorem vi_X9_pass : Cond.instanceMethod yX9_pass ∈ lw_ok := lw_ok_in (lw_g5 (List.mem_of_getElem? (i := 211) rfl)) rfl
theorem vs_X9_pass : Cond.selects yX9_pass.cls yX9_pass yX9_pass ∈ lw_ok := lw_ok_in (lw_g5 (List.mem_of_getElem? (i := 212) rfl)) rfl
theorem vk_X9_pass : vv_vok yX9_pass := ⟨vi_X9_pass, vs_X9_pass⟩
theorem cd_X9_undo : Cond.code yX9_undo cX9_undo 1 (some .int) ∈ lw_ok := lw_ok_in (lw_g5 (List.mem_of_getElem? (i := 218) rfl)) rfl
theorem yk_X9_undo : vv_yok yX9_undo cX9_undo 1 (some .int) 0 := ⟨cd_X9_undo, in_X9, by decide +kernel⟩
theorem vi_X9_undo : Cond.instanceMethod yX9_undo ∈ lw_ok := lw_ok_in (lw_g5 (List.mem_of_getElem? (i := 216) rfl)) rfl
theorem vs_X9_undo : Cond.selects yX9_undo.cls yX9_undo yX9_undo ∈ lw_ok := lw_ok_in (lw_g5 (List.mem_of_getElem? (i := 217) rfl)) rfl
theorem vk_X9_undo : vv_vok yX9_undo := ⟨vi_X9_undo, vs_X9_undo⟩
theorem cd_X9_areMinutes : Cond.code yX9_areMinutes cX9_areMinutes 1 (some .boolean) ∈ lw_ok := lw_ok_in (lw_g5 (List.mem_of_getElem? (i := 225) rfl)) rfl
theorem yk_X9_areMinutes : vv_yok yX9_areMinutes cX9_areMinutes 1 (some .boolean) 1 := ⟨cd_X9_areMinutes, in_X9, by decide +kernel⟩
theorem sk_X9_areMinutes : Cond.static yX9_areMinutes ∈ lw_ok := lw_ok_in (lw_g5 (List.mem_of_getElem? (i := 224) rfl)) rfl
theorem cd_X9_goOn : Cond.code yX9_goOn cX9_goOn 3 none ∈ lw_ok := lw_ok_in (lw_g5 (List.mem_of_getElem? (i := 230) rfl)) rfl
theorem yk_X9_goOn : vv_yok yX9_goOn cX9_goOn 3 none 1 := ⟨cd_X9_goOn, in_X9, by decide +kernel⟩
theorem vi_X9_goOn : Cond.instanceMethod yX9_goOn ∈ lw_ok := lw_ok_in (lw_g5 (List.mem_of_getElem? (i := 229) rfl)) rfl
theorem vs_X9_goOn : Cond.selects yX9_goOn.cls yX9_goOn yX9_goOn ∈ lw_ok := lw_ok_in (lw_g0 (List.mem_of_getElem? (i := 42) rfl)) rfl
theorem vk_X9_goOn : vv_vok yX9_goOn := ⟨vi_X9_goOn, vs_X9_goOn⟩
theorem cd_X9_behind : Cond.code yX9_behind cX9_behind 3 (some .int) ∈ lw_ok := lw_ok_in (lw_g5 (List.mem_of_getElem? (i := 222) rfl)) rfl
theorem yk_X9_behind : vv_yok yX9_behind cX9_behind 3 (some .int) 2 := ⟨cd_X9_behind, in_X9, by decide +kernel⟩
theorem vi_X9_behind : Cond.instanceMethod yX9_behind ∈ lw_ok := lw_ok_in (lw_g5 (List.mem_of_getElem? (i := 220) rfl)) rfl
theorem vs_X9_behind : Cond.selects yX9_behind.cls yX9_behind yX9_behind ∈ lw_ok := lw_ok_in (lw_g5 (List.mem_of_getElem? (i := 221) rfl)) rfl
theorem vk_X9_behind : vv_vok yX9_behind := ⟨vi_X9_behind, vs_X9_behind⟩
theorem cd_X9_worn : Cond.code yX9_worn cX9_worn 3 (some .int) ∈ lw_ok := lw_ok_in (lw_g5 (List.mem_of_getElem? (i := 238) rfl)) rfl
theorem yk_X9_worn : vv_yok yX9_worn cX9_worn 3 (some .int) 2 := ⟨cd_X9_worn, in_X9, by decide +kernel⟩
theorem vi_X9_worn : Cond.instanceMethod yX9_worn ∈ lw_ok := lw_ok_in (lw_g5 (List.mem_of_getElem? (i := 236) rfl)) rfl
theorem vs_X9_worn : Cond.selects yX9_worn.cls yX9_worn yX9_worn ∈ lw_ok := lw_ok_in (lw_g5 (List.mem_of_getElem? (i := 237) rfl)) rfl
theorem vk_X9_worn : vv_vok yX9_worn := ⟨vi_X9_worn, vs_X9_worn⟩
theorem cd_X9_over : Cond.code yX9_over cX9_over 3 (some .int) ∈ lw_ok := lw_ok_in (lw_g6 (List.mem_of_getElem? (i := 2) rfl)) rfl
theorem yk_X9_over : vv_yok yX9_over cX9_over 3 (some .int) 1 := ⟨cd_X9_over, in_X9, by decide +kernel⟩
theorem vi_X9_over : Cond.instanceMethod yX9_over ∈ lw_ok := lw_ok_in (lw_g6 (List.mem_of_getElem? (i := 0) rfl)) rfl
theorem vs_X9_over : Cond.selects yX9_over.cls yX9_over yX9_over ∈ lw_ok := lw_ok_in (lw_g6 (List.mem_of_getElem? (i := 1) rfl)) rfl
theorem vk_X9_over : vv_vok yX9_over := ⟨vi_X9_over, vs_X9_over⟩
theorem cd_X9_goneFrom : Cond.code yX9_goneFrom cX9_goneFrom 2 (some .int) ∈ lw_ok := lw_ok_in (lw_g6 (List.mem_of_getElem? (i := 10) rfl)) rfl
theorem yk_X9_goneFrom : vv_yok yX9_goneFrom cX9_goneFrom 2 (some .int) 0 := ⟨cd_X9_goneFrom, in_X9, by decide +kernel⟩
theorem vi_X9_goneFrom : Cond.instanceMethod yX9_goneFrom ∈ lw_ok := lw_ok_in (lw_g6 (List.mem_of_getElem? (i := 9) rfl)) rfl
theorem vs_X9_goneFrom : Cond.selects yX9_goneFrom.cls yX9_goneFrom yX9_goneFrom ∈ lw_ok := lw_ok_in (lw_g0 (List.mem_of_getElem? (i := 44) rfl)) rfl
theorem vk_X9_goneFrom : vv_vok yX9_goneFrom := ⟨vi_X9_goneFrom, vs_X9_goneFrom⟩
theorem cd_X9_gone : Cond.code yX9_gone cX9_gone 3 (some .int) ∈ lw_ok := lw_ok_in (lw_g6 (List.mem_of_getElem? (i := 6) rfl)) rfl
theorem yk_X9_gone : vv_yok yX9_gone cX9_gone 3 (some .int) 1 := ⟨cd_X9_gone, in_X9, by decide +kernel⟩
theorem vi_X9_gone : Cond.instanceMethod yX9_gone ∈ lw_ok := lw_ok_in (lw_g6 (List.mem_of_getElem? (i := 4) rfl)) rfl
theorem vs_X9_gone : Cond.selects yX9_gone.cls yX9_gone yX9_gone ∈ lw_ok := lw_ok_in (lw_g6 (List.mem_of_getElem? (i := 5) rfl)) rfl
theorem vk_X9_gone : vv_vok yX9_gone := ⟨vi_X9_gone, vs_X9_gone⟩
theorem cd_X9_nextRow : Cond.code yX9_nextRow cX9_nextRow 4 (some .boolean) ∈ lw_ok := lw_ok_in (lw_g6 (List.mem_of_getElem? (i := 23) rfl)) rfl
theorem yk_X9_nextRow : vv_yok yX9_nextRow cX9_nextRow 4 (some .boolean) 0 := ⟨cd_X9_nextRow, in_X9, by decide +kernel⟩
theorem vi_X9_nextRow : Cond.instanceMethod yX9_nextRow ∈ lw_ok := lw_ok_in (lw_g6 (List.mem_of_getElem? (i := 22) rfl)) rfl
theorem vs_X9_nextRow : Cond.selects yX9_nextRow.cls yX9_nextRow yX9_nextRow ∈ lw_ok := lw_ok_in (lw_g0 (List.mem_of_getElem? (i := 46) rfl)) rfl
theorem vk_X9_nextRow : vv_vok yX9_nextRow := ⟨vi_X9_nextRow, vs_X9_nextRow⟩
theorem cd_X9_layRow : Cond.code yX9_layRow cX9_layRow 4 (some .boolean) ∈ lw_ok := lw_ok_in (lw_g6 (List.mem_of_getElem? (i := 19) rfl)) rfl
theorem yk_X9_layRow : vv_yok yX9_layRow cX9_layRow 4 (some .boolean) 1 := ⟨cd_X9_layRow, in_X9, by decide +kernel⟩
theorem vi_X9_layRow : Cond.instanceMethod yX9_layRow ∈ lw_ok := lw_ok_in (lw_g6 (List.mem_of_getElem? (i := 18) rfl)) rfl
theorem vs_X9_layRow : Cond.selects yX9_layRow.cls yX9_layRow yX9_layRow ∈ lw_ok := lw_ok_in (lw_g0 (List.mem_of_getElem? (i := 45) rfl)) rfl
theorem vk_X9_layRow : vv_vok yX9_layRow := ⟨vi_X9_layRow, vs_X9_layRow⟩
theorem cd_X9_best : Cond.code yX9_best cX9_best 8 (some .int) ∈ lw_ok := lw_ok_in (lw_g6 (List.mem_of_getElem? (i := 14) rfl)) rfl
theorem yk_X9_best : vv_yok yX9_best cX9_best 8 (some .int) 4 := ⟨cd_X9_best, in_X9, by decide +kernel⟩
theorem vi_X9_best : Cond.instanceMethod yX9_best ∈ lw_ok := lw_ok_in (lw_g6 (List.mem_of_getElem? (i := 12) rfl)) rfl
theorem vs_X9_best : Cond.selects yX9_best.cls yX9_best yX9_best ∈ lw_ok := lw_ok_in (lw_g6 (List.mem_of_getElem? (i := 13) rfl)) rfl
theorem vk_X9_best : vv_vok yX9_best := ⟨vi_X9_best, vs_X9_best⟩
theorem cd_X9_isGap : Cond.code yX9_isGap cX9_isGap 6 (some .boolean) ∈ lw_ok := lw_ok_in (lw_g6 (List.mem_of_getElem? (i := 31) rfl)) rfl
theorem yk_X9_isGap : vv_yok yX9_isGap cX9_isGap 6 (some .boolean) 3 := ⟨cd_X9_isGap, in_X9, by decide +kernel⟩
theorem vi_X9_isGap : Cond.instanceMethod yX9_isGap ∈ lw_ok := lw_ok_in (lw_g6 (List.mem_of_getElem? (i := 30) rfl)) rfl
theorem vs_X9_isGap : Cond.selects yX9_isGap.cls yX9_isGap yX9_isGap ∈ lw_ok := lw_ok_in (lw_g0 (List.mem_of_getElem? (i := 47) rfl)) rfl
theorem vk_X9_isGap : vv_vok yX9_isGap := ⟨vi_X9_isGap, vs_X9_isGap⟩
theorem cd_X9_gap : Cond.code yX9_gap cX9_gap 5 (some .int) ∈ lw_ok := lw_ok_in (lw_g6 (List.mem_of_getElem? (i := 27) rfl)) rfl
theorem yk_X9_gap : vv_yok yX9_gap cX9_gap 5 (some .int) 2 := ⟨cd_X9_gap, in_X9, by decide +kernel⟩
theorem vi_X9_gap : Cond.instanceMethod yX9_gap ∈ lw_ok := lw_ok_in (lw_g6 (List.mem_of_getElem? (i := 25) rfl)) rfl
theorem vs_X9_gap : Cond.selects yX9_gap.cls yX9_gap yX9_gap ∈ lw_ok := lw_ok_in (lw_g6 (List.mem_of_getElem? (i := 26) rfl)) rfl
theorem vk_X9_gap : vv_vok yX9_gap := ⟨vi_X9_gap, vs_X9_gap⟩
theorem cd_X9_timeOf : Cond.code yX9_timeOf cX9_timeOf 7 (some .int) ∈ lw_ok := lw_ok_in (lw_g6 (List.mem_of_getElem? (i := 40) rfl)) rfl
theorem yk_X9_timeOf : vv_yok yX9_timeOf cX9_timeOf 7 (some .int) 1 := ⟨cd_X9_timeOf, in_X9, by decide +kernel⟩
theorem vi_X9_timeOf : Cond.instanceMethod yX9_timeOf ∈ lw_ok := lw_ok_in (lw_g6 (List.mem_of_getElem? (i := 39) rfl)) rfl
theorem vs_X9_timeOf : Cond.selects yX9_timeOf.cls yX9_timeOf yX9_timeOf ∈ lw_ok := lw_ok_in (lw_g0 (List.mem_of_getElem? (i := 48) rfl)) rfl
theorem vk_X9_timeOf : vv_vok yX9_timeOf := ⟨vi_X9_timeOf, vs_X9_timeOf⟩
theorem cd_X9_together : Cond.code yX9_together cX9_together 7 (some .int) ∈ lw_ok := lw_ok_in (lw_g6 (List.mem_of_getElem? (i := 35) rfl)) rfl
theorem yk_X9_together : vv_yok yX9_together cX9_together 7 (some .int) 1 := ⟨cd_X9_together, in_X9, by decide +kernel⟩
theorem vi_X9_together : Cond.instanceMethod yX9_together ∈ lw_ok := lw_ok_in (lw_g6 (List.mem_of_getElem? (i := 33) rfl)) rfl
theorem vs_X9_together : Cond.selects yX9_together.cls yX9_together yX9_together ∈ lw_ok := lw_ok_in (lw_g6 (List.mem_of_getElem? (i := 34) rfl)) rfl
theorem vk_X9_together : vv_vok yX9_together := ⟨vi_X9_together, vs_X9_together⟩
theorem cd_X9_isSlow : Cond.code yX9_isSlow cX9_isSlow 6 (some .boolean) ∈ lw_ok := lw_ok_in (lw_g6 (List.mem_of_getElem? (i := 49) rfl)) rfl
theorem yk_X9_isSlow : vv_yok yX9_isSlow cX9_isSlow 6 (some .boolean) 3 := ⟨cd_X9_isSlow, in_X9, by decide +kernel⟩
theorem vi_X9_isSlow : Cond.instanceMethod yX9_isSlow ∈ lw_ok := lw_ok_in (lw_g6 (List.mem_of_getElem? (i := 48) rfl)) rfl
theorem vs_X9_isSlow : Cond.selects yX9_isSlow.cls yX9_isSlow yX9_isSlow ∈ lw_ok := lw_ok_in (lw_g0 (List.mem_of_getElem? (i := 49) rfl)) rfl
theorem vk_X9_isSlow : vv_vok yX9_isSlow := ⟨vi_X9_isSlow, vs_X9_isSlow⟩
theorem cd_X9_slow : Cond.code yX9_slow cX9_slow 5 (some .int) ∈ lw_ok := lw_ok_in (lw_g6 (List.mem_of_getElem? (i := 45) rfl)) rfl
theorem yk_X9_slow : vv_yok yX9_slow cX9_slow 5 (some .int) 3 := ⟨cd_X9_slow, in_X9, by decide +kernel⟩
theorem vi_X9_slow : Cond.instanceMethod yX9_slow ∈ lw_ok := lw_ok_in (lw_g6 (List.mem_of_getElem? (i := 43) rfl)) rfl
theorem vs_X9_slow : Cond.selects yX9_slow.cls yX9_slow yX9_slow ∈ lw_ok := lw_ok_in (lw_g6 (List.mem_of_getElem? (i := 44) rfl)) rfl
theorem vk_X9_slow : vv_vok yX9_slow := ⟨vi_X9_slow, vs_X9_slow⟩
theorem cd_X9_fill : Cond.code yX9_fill cX9_fill 3 (some .int) ∈ lw_ok := lw_ok_in (lw_g6 (List.mem_of_getElem? (i := 53) rfl)) rfl
theorem yk_X9_fill : vv_yok yX9_fill cX9_fill 3 (some .int) 1 := ⟨cd_X9_fill, in_X9, by decide +kernel⟩
theorem vi_X9_fill : Cond.instanceMethod yX9_fill ∈ lw_ok := lw_ok_in (lw_g6 (List.mem_of_getElem? (i := 51) rfl)) rfl
theorem vs_X9_fill : Cond.selects yX9_fill.cls yX9_fill yX9_fill ∈ lw_ok := lw_ok_in (lw_g6 (List.mem_of_getElem? (i := 52) rfl)) rfl
theorem vk_X9_fill : vv_vok yX9_fill := ⟨vi_X9_fill, vs_X9_fill⟩
theorem cd_X9_trodden : Cond.code yX9_trodden cX9_trodden 5 (some .int) ∈ lw_ok := lw_ok_in (lw_g6 (List.mem_of_getElem? (i := 58) rfl)) rfl
theorem yk_X9_trodden : vv_yok yX9_trodden cX9_trodden 5 (some .int) 2 := ⟨cd_X9_trodden, in_X9, by decide +kernel⟩
theorem vi_X9_trodden : Cond.instanceMethod yX9_trodden ∈ lw_ok := lw_ok_in (lw_g6 (List.mem_of_getElem? (i := 56) rfl)) rfl
theorem vs_X9_trodden : Cond.selects yX9_trodden.cls yX9_trodden yX9_trodden ∈ lw_ok := lw_ok_in (lw_g6 (List.mem_of_getElem? (i := 57) rfl)) rfl
theorem vk_X9_trodden : vv_vok yX9_trodden := ⟨vi_X9_trodden, vs_X9_trodden⟩
theorem cd_X9_breaches : Cond.code yX9_breaches cX9_breaches 4 (some .int) ∈ lw_ok := lw_ok_in (lw_g6 (List.mem_of_getElem? (i := 66) rfl)) rfl
theorem yk_X9_breaches : vv_yok yX9_breaches cX9_breaches 4 (some .int) 1 := ⟨cd_X9_breaches, in_X9, by decide +kernel⟩
theorem vi_X9_breaches : Cond.instanceMethod yX9_breaches ∈ lw_ok := lw_ok_in (lw_g6 (List.mem_of_getElem? (i := 65) rfl)) rfl
theorem vs_X9_breaches : Cond.selects yX9_breaches.cls yX9_breaches yX9_breaches ∈ lw_ok := lw_ok_in (lw_g0 (List.mem_of_getElem? (i := 50) rfl)) rfl
theorem vk_X9_breaches : vv_vok yX9_breaches := ⟨vi_X9_breaches, vs_X9_breaches⟩
theorem cd_X9_blame : Cond.code yX9_blame cX9_blame 2 (some .int) ∈ lw_ok := lw_ok_in (lw_g6 (List.mem_of_getElem? (i := 62) rfl)) rfl
theorem yk_X9_blame : vv_yok yX9_blame cX9_blame 2 (some .int) 0 := ⟨cd_X9_blame, in_X9, by decide +kernel⟩
theorem vi_X9_blame : Cond.instanceMethod yX9_blame ∈ lw_ok := lw_ok_in (lw_g6 (List.mem_of_getElem? (i := 60) rfl)) rfl
theorem vs_X9_blame : Cond.selects yX9_blame.cls yX9_blame yX9_blame ∈ lw_ok := lw_ok_in (lw_g6 (List.mem_of_getElem? (i := 61) rfl)) rfl
theorem vk_X9_blame : vv_vok yX9_blame := ⟨vi_X9_blame, vs_X9_blame⟩
theorem cd_X9_seen : Cond.code yX9_seen cX9_seen 3 (some .int) ∈ lw_ok := lw_ok_in (lw_g6 (List.mem_of_getElem? (i := 70) rfl)) rfl
theorem yk_X9_seen : vv_yok yX9_seen cX9_seen 3 (some .int) 2 := ⟨cd_X9_seen, in_X9, by decide +kernel⟩
theorem vi_X9_seen : Cond.instanceMethod yX9_seen ∈ lw_ok := lw_ok_in (lw_g6 (List.mem_of_getElem? (i := 68) rfl)) rfl
theorem vs_X9_seen : Cond.selects yX9_seen.cls yX9_seen yX9_seen ∈ lw_ok := lw_ok_in (lw_g6 (List.mem_of_getElem? (i := 69) rfl)) rfl
theorem vk_X9_seen : vv_vok yX9_seen := ⟨vi_X9_seen, vs_X9_seen⟩
theorem cd_X9_forget : Cond.code yX9_forget cX9_forget 2 (some .int) ∈ lw_ok := lw_ok_in (lw_g6 (List.mem_of_getElem? (i := 75) rfl)) rfl
theorem yk_X9_forget : vv_yok yX9_forget cX9_forget 2 (some .int) 0 := ⟨cd_X9_forget, in_X9, by decide +kernel⟩
theorem vi_X9_forget : Cond.instanceMethod yX9_forget ∈ lw_ok := lw_ok_in (lw_g6 (List.mem_of_getElem? (i := 73) rfl)) rfl
theorem vs_X9_forget : Cond.selects yX9_forget.cls yX9_forget yX9_forget ∈ lw_ok := lw_ok_in (lw_g6 (List.mem_of_getElem? (i := 74) rfl)) rfl
theorem vk_X9_forget : vv_vok yX9_forget := ⟨vi_X9_forget, vs_X9_forget⟩
theorem cd_X9_flows : Cond.code yX9_flows cX9_flows 5 (some .int) ∈ lw_ok := lw_ok_in (lw_g6 (List.mem_of_getElem? (i := 79) rfl)) rfl
theorem yk_X9_flows : vv_yok yX9_flows cX9_flows 5 (some .int) 0 := ⟨cd_X9_flows, in_X9, by decide +kernel⟩
theorem vi_X9_flows : Cond.instanceMethod yX9_flows ∈ lw_ok := lw_ok_in (lw_g6 (List.mem_of_getElem? (i := 77) rfl)) rfl
theorem vs_X9_flows : Cond.selects yX9_flows.cls yX9_flows yX9_flows ∈ lw_ok := lw_ok_in (lw_g6 (List.mem_of_getElem? (i := 78) rfl)) rfl
theorem vk_X9_flows : vv_vok yX9_flows := ⟨vi_X9_flows, vs_X9_flows⟩
theorem cd_X9_holds : Cond.code yX9_holds cX9_holds 6 (some .boolean) ∈ lw_ok := lw_ok_in (lw_g6 (List.mem_of_getElem? (i := 88) rfl)) rfl
theorem yk_X9_holds : vv_yok yX9_holds cX9_holds 6 (some .boolean) 3 := ⟨cd_X9_holds, in_X9, by decide +kernel⟩
theorem vi_X9_holds : Cond.instanceMethod yX9_holds ∈ lw_ok := lw_ok_in (lw_g6 (List.mem_of_getElem? (i := 87) rfl)) rfl
theorem vs_X9_holds : Cond.selects yX9_holds.cls yX9_holds yX9_holds ∈ lw_ok := lw_ok_in (lw_g0 (List.mem_of_getElem? (i := 51) rfl)) rfl
theorem vk_X9_holds : vv_vok yX9_holds := ⟨vi_X9_holds, vs_X9_holds⟩
theorem cd_X9_odds : Cond.code yX9_odds cX9_odds 10 (some .int) ∈ lw_ok := lw_ok_in (lw_g6 (List.mem_of_getElem? (i := 83) rfl)) rfl
theorem yk_X9_odds : vv_yok yX9_odds cX9_odds 10 (some .int) 4 := ⟨cd_X9_odds, in_X9, by decide +kernel⟩
theorem vi_X9_odds : Cond.instanceMethod yX9_odds ∈ lw_ok := lw_ok_in (lw_g6 (List.mem_of_getElem? (i := 81) rfl)) rfl
theorem vs_X9_odds : Cond.selects yX9_odds.cls yX9_odds yX9_odds ∈ lw_ok := lw_ok_in (lw_g6 (List.mem_of_getElem? (i := 82) rfl)) rfl
theorem vk_X9_odds : vv_vok yX9_odds := ⟨vi_X9_odds, vs_X9_odds⟩
theorem cd_X9_night : Cond.code yX9_night cX9_night 6 (some .int) ∈ lw_ok := lw_ok_in (lw_g6 (List.mem_of_getElem? (i := 92) rfl)) rfl
theorem yk_X9_night : vv_yok yX9_night cX9_night 6 (some .int) 2 := ⟨cd_X9_night, in_X9, by decide +kernel⟩
theorem vi_X9_night : Cond.instanceMethod yX9_night ∈ lw_ok := lw_ok_in (lw_g6 (List.mem_of_getElem? (i := 90) rfl)) rfl
theorem vs_X9_night : Cond.selects yX9_night.cls yX9_night yX9_night ∈ lw_ok := lw_ok_in (lw_g6 (List.mem_of_getElem? (i := 91) rfl)) rfl
theorem vk_X9_night : vv_vok yX9_night := ⟨vi_X9_night, vs_X9_night⟩
theorem cd_X9_copy : Cond.code yX9_copy cX9_copy 4 none ∈ lw_ok := lw_ok_in (lw_g6 (List.mem_of_getElem? (i := 105) rfl)) rfl
theorem yk_X9_copy : vv_yok yX9_copy cX9_copy 4 none 2 := ⟨cd_X9_copy, in_X9, by decide +kernel⟩
theorem vi_X9_copy : Cond.instanceMethod yX9_copy ∈ lw_ok := lw_ok_in (lw_g6 (List.mem_of_getElem? (i := 104) rfl)) rfl
theorem vs_X9_copy : Cond.selects yX9_copy.cls yX9_copy yX9_copy ∈ lw_ok := lw_ok_in (lw_g0 (List.mem_of_getElem? (i := 52) rfl)) rfl
theorem vk_X9_copy : vv_vok yX9_copy := ⟨vi_X9_copy, vs_X9_copy⟩
theorem cd_X9_keep : Cond.code yX9_keep cX9_keep 1 (some .int) ∈ lw_ok := lw_ok_in (lw_g6 (List.mem_of_getElem? (i := 101) rfl)) rfl
theorem yk_X9_keep : vv_yok yX9_keep cX9_keep 1 (some .int) 0 := ⟨cd_X9_keep, in_X9, by decide +kernel⟩
theorem vi_X9_keep : Cond.instanceMethod yX9_keep ∈ lw_ok := lw_ok_in (lw_g6 (List.mem_of_getElem? (i := 99) rfl)) rfl
theorem vs_X9_keep : Cond.selects yX9_keep.cls yX9_keep yX9_keep ∈ lw_ok := lw_ok_in (lw_g6 (List.mem_of_getElem? (i := 100) rfl)) rfl
theorem vk_X9_keep : vv_vok yX9_keep := ⟨vi_X9_keep, vs_X9_keep⟩
theorem cd_X9_back : Cond.code yX9_back cX9_back 1 (some .int) ∈ lw_ok := lw_ok_in (lw_g6 (List.mem_of_getElem? (i := 109) rfl)) rfl
theorem yk_X9_back : vv_yok yX9_back cX9_back 1 (some .int) 0 := ⟨cd_X9_back, in_X9, by decide +kernel⟩
theorem vi_X9_back : Cond.instanceMethod yX9_back ∈ lw_ok := lw_ok_in (lw_g6 (List.mem_of_getElem? (i := 107) rfl)) rfl
theorem vs_X9_back : Cond.selects yX9_back.cls yX9_back yX9_back ∈ lw_ok := lw_ok_in (lw_g6 (List.mem_of_getElem? (i := 108) rfl)) rfl
theorem vk_X9_back : vv_vok yX9_back := ⟨vi_X9_back, vs_X9_back⟩
theorem cd_X9_count : Cond.code yX9_count cX9_count 2 (some .int) ∈ lw_ok := lw_ok_in (lw_g6 (List.mem_of_getElem? (i := 113) rfl)) rfl
theorem yk_X9_count : vv_yok yX9_count cX9_count 2 (some .int) 1 := ⟨cd_X9_count, in_X9, by decide +kernel⟩
theorem vi_X9_count : Cond.instanceMethod yX9_count ∈ lw_ok := lw_ok_in (lw_g6 (List.mem_of_getElem? (i := 111) rfl)) rfl
theorem vs_X9_count : Cond.selects yX9_count.cls yX9_count yX9_count ∈ lw_ok := lw_ok_in (lw_g6 (List.mem_of_getElem? (i := 112) rfl)) rfl
theorem vk_X9_count : vv_vok yX9_count := ⟨vi_X9_count, vs_X9_count⟩
end
section
def tbC : List vv_Sh := [.inl (8, [2, 5, 24, 43, 47, 51, 66, 0, 67, 70, 72]), .inl (7, [3, 0, 4, 0]), .inr (.inl 200), .inr (.inl 4), .inl (4, [6, 7, 0, 0, 0, 0, 0, 8, 15]), .inr (.inl 8), .inr (.inl 8), .inl (1, [9, 10, 0, 11, 12, 13, 0, 14]), .inr (.inl 4), .inr (.inl 4), .inr (.inl 4), .inr (.inl 4), .inr (.inl 4), .inr (.inl 101), .inl (2, [16, 0, 21, 22, 0, 23]), .inr (.inr (2, 4, 16, 1)), .inr (.inl 4), .inr (.inl 4), .inr (.inl 4), .inr (.inl 4), .inr (.inl 5), .inr (.inl 5), .inr (.inl 4), .inl (4, [25, 26, 0, 0, 0, 0, 0, 27, 34]), .inr (.inl 8), .inr (.inl 8), .inl (1, [28, 29, 0, 30, 31, 32, 0, 33]), .inr (.inl 4), .inr (.inl 4), .inr (.inl 4), .inr (.inl 4), .inr (.inl 4), .inr (.inl 101), .inl (2, [35, 0, 40, 41, 0, 42]), .inr (.inr (2, 4, 35, 1)), .inr (.inl 4), .inr (.inl 4), .inr (.inl 4), .inr (.inl 4), .inr (.inl 5), .inr (.inl 5), .inr (.inl 4), .inl (3, [5, 44, 45, 46, 0, 0, 0, 0, 0, 0, 0, 0, 0, 0, 0, 0]), .inr (.inl 8), .inr (.inl 8), .inr (.inl 8), .inl (3, [5, 48, 49, 50, 0, 0, 0, 0, 0, 0, 0, 0, 0, 0, 0, 0]), .inr (.inl 8), .inr (.inl 8), .inr (.inl 8), .inl (0, [52, 53, 54, 55, 0]), .inr (.inl 30), .inr (.inl 30), .inr (.inl 30), .inr (.inl 30), .inl (0, [57, 58, 59, 60, 0]), .inr (.inl 30), .inr (.inl 30), .inr (.inl 30), .inr (.inl 30), .inl (0, [62, 63, 64, 65, 0]), .inr (.inl 30), .inr (.inl 30), .inr (.inl 30), .inr (.inl 30), .inr (.inr (1, 2, 55, 5)), .inl (6, [68, 69, 0]), .inr (.inl 8), .inr (.inl 8), .inl (5, [71, 0]), .inr (.inl 8), .inl (5, [73, 0]), .inr (.inl 8)]
def wC : vv_Wd := (fun k => tbC.getD k (.inr (.inl 0)), 73)
def tbM : List vv_Sh := [.inl (9, [0, 2, 3, 4, 5, 6, 7, 8, 9, 10, 11, 12, 13, 14, 15, 16, 17, 18, 19, 20, 21, 22, 23, 24, 25, 0, 0, 26, 27, 0, 28, 29, 30, 31, 32, 33, 34, 35, 0, 0, 0, 0, 36, 37, 38, 39, 40, 0]), .inr (.inl 200), .inr (.inl 2), .inr (.inl 16), .inr (.inl 16), .inr (.inl 4), .inr (.inl 4), .inr (.inl 2), .inr (.inl 8), .inr (.inl 8), .inr (.inl 2), .inr (.inl 8), .inr (.inl 8), .inr (.inl 8), .inr (.inl 2), .inr (.inl 32), .inr (.inl 2), .inr (.inl 10), .inr (.inl 10), .inr (.inl 10), .inr (.inl 3), .inr (.inl 90), .inr (.inl 90), .inr (.inl 90), .inr (.inl 90), .inr (.inl 8), .inr (.inl 8), .inr (.inl 4), .inr (.inl 16), .inr (.inl 16), .inr (.inl 16), .inr (.inl 2), .inr (.inl 2), .inr (.inl 2), .inr (.inl 2), .inr (.inl 8), .inr (.inl 8), .inr (.inl 4), .inr (.inl 5), .inr (.inl 5)]
def wM : vv_Wd := (fun k => tbM.getD k (.inr (.inl 0)), 40)
abbrev is_X0 (d : Nat) : Prop := d = 50 ∨ d = 55 ∨ d = 60
theorem s_X0 {Y : vv_Y} (hY : Y.2.2.2.2 = wC) {d : Nat} (hd : is_X0 d) : d < Y.2.2.2.2.2 ∧ vv_sh Y d = .inl (0, [d + 1 + 1, d + 2 + 1, d + 3 + 1, d + 4 + 1, 0]) := by
  unfold vv_sh
  rw [hY]
  rcases hd with rfl | rfl | rfl <;> exact ⟨by decide, rfl⟩
theorem a_X0_kinds {Y : vv_Y} (hY : Y.2.2.2.2 = wC) {d : Nat} (hd : is_X0 d) : d + 1 < Y.2.2.2.2.2 ∧ vv_sh Y (d + 1) = .inr (.inl 30) := by
  unfold vv_sh
  rw [hY]
  rcases hd with rfl | rfl | rfl <;> exact ⟨by decide, rfl⟩
theorem a_X0_places {Y : vv_Y} (hY : Y.2.2.2.2 = wC) {d : Nat} (hd : is_X0 d) : d + 2 < Y.2.2.2.2.2 ∧ vv_sh Y (d + 2) = .inr (.inl 30) := by
  unfold vv_sh
  rw [hY]
  rcases hd with rfl | rfl | rfl <;> exact ⟨by decide, rfl⟩
theorem a_X0_stuffs {Y : vv_Y} (hY : Y.2.2.2.2 = wC) {d : Nat} (hd : is_X0 d) : d + 3 < Y.2.2.2.2.2 ∧ vv_sh Y (d + 3) = .inr (.inl 30) := by
  unfold vv_sh
  rw [hY]
  rcases hd with rfl | rfl | rfl <;> exact ⟨by decide, rfl⟩
theorem a_X0_amounts {Y : vv_Y} (hY : Y.2.2.2.2 = wC) {d : Nat} (hd : is_X0 d) : d + 4 < Y.2.2.2.2.2 ∧ vv_sh Y (d + 4) = .inr (.inl 30) := by
  unfold vv_sh
  rw [hY]
  rcases hd with rfl | rfl | rfl <;> exact ⟨by decide, rfl⟩
abbrev is_X1 (d : Nat) : Prop := d = 7 ∨ d = 26
theorem s_X1 {Y : vv_Y} (hY : Y.2.2.2.2 = wC) {d : Nat} (hd : is_X1 d) : d < Y.2.2.2.2.2 ∧ vv_sh Y d = .inl (1, [d + 1 + 1, d + 2 + 1, 0, d + 3 + 1, d + 4 + 1, d + 5 + 1, 0, d + 6 + 1]) := by
  unfold vv_sh
  rw [hY]
  rcases hd with rfl | rfl <;> exact ⟨by decide, rfl⟩
theorem a_X1_flowFrom {Y : vv_Y} (hY : Y.2.2.2.2 = wC) {d : Nat} (hd : is_X1 d) : d + 1 < Y.2.2.2.2.2 ∧ vv_sh Y (d + 1) = .inr (.inl 4) := by
  unfold vv_sh
  rw [hY]
  rcases hd with rfl | rfl <;> exact ⟨by decide, rfl⟩
theorem a_X1_flowUnits {Y : vv_Y} (hY : Y.2.2.2.2 = wC) {d : Nat} (hd : is_X1 d) : d + 2 < Y.2.2.2.2.2 ∧ vv_sh Y (d + 2) = .inr (.inl 4) := by
  unfold vv_sh
  rw [hY]
  rcases hd with rfl | rfl <;> exact ⟨by decide, rfl⟩
theorem a_X1_rainFrom {Y : vv_Y} (hY : Y.2.2.2.2 = wC) {d : Nat} (hd : is_X1 d) : d + 3 < Y.2.2.2.2.2 ∧ vv_sh Y (d + 3) = .inr (.inl 4) := by
  unfold vv_sh
  rw [hY]
  rcases hd with rfl | rfl <;> exact ⟨by decide, rfl⟩
theorem a_X1_rainTo {Y : vv_Y} (hY : Y.2.2.2.2 = wC) {d : Nat} (hd : is_X1 d) : d + 4 < Y.2.2.2.2.2 ∧ vv_sh Y (d + 4) = .inr (.inl 4) := by
  unfold vv_sh
  rw [hY]
  rcases hd with rfl | rfl <;> exact ⟨by decide, rfl⟩
theorem a_X1_rainUnits {Y : vv_Y} (hY : Y.2.2.2.2 = wC) {d : Nat} (hd : is_X1 d) : d + 5 < Y.2.2.2.2.2 ∧ vv_sh Y (d + 5) = .inr (.inl 4) := by
  unfold vv_sh
  rw [hY]
  rcases hd with rfl | rfl <;> exact ⟨by decide, rfl⟩
theorem a_X1_byMinute {Y : vv_Y} (hY : Y.2.2.2.2 = wC) {d : Nat} (hd : is_X1 d) : d + 6 < Y.2.2.2.2.2 ∧ vv_sh Y (d + 6) = .inr (.inl 101) := by
  unfold vv_sh
  rw [hY]
  rcases hd with rfl | rfl <;> exact ⟨by decide, rfl⟩
abbrev is_X2 (d : Nat) : Prop := d = 14 ∨ d = 33
theorem s_X2 {Y : vv_Y} (hY : Y.2.2.2.2 = wC) {d : Nat} (hd : is_X2 d) : d < Y.2.2.2.2.2 ∧ vv_sh Y d = .inl (2, [d + 1 + 1, 0, d + 6 + 1, d + 7 + 1, 0, d + 8 + 1]) := by
  unfold vv_sh
  rw [hY]
  rcases hd with rfl | rfl <;> exact ⟨by decide, rfl⟩
theorem a_X2_jobStuff {Y : vv_Y} (hY : Y.2.2.2.2 = wC) {d : Nat} (hd : is_X2 d) : d + 6 < Y.2.2.2.2.2 ∧ vv_sh Y (d + 6) = .inr (.inl 5) := by
  unfold vv_sh
  rw [hY]
  rcases hd with rfl | rfl <;> exact ⟨by decide, rfl⟩
theorem a_X2_jobInches {Y : vv_Y} (hY : Y.2.2.2.2 = wC) {d : Nat} (hd : is_X2 d) : d + 7 < Y.2.2.2.2.2 ∧ vv_sh Y (d + 7) = .inr (.inl 5) := by
  unfold vv_sh
  rw [hY]
  rcases hd with rfl | rfl <;> exact ⟨by decide, rfl⟩
theorem a_X2_busy {Y : vv_Y} (hY : Y.2.2.2.2 = wC) {d : Nat} (hd : is_X2 d) : d + 8 < Y.2.2.2.2.2 ∧ vv_sh Y (d + 8) = .inr (.inl 4) := by
  unfold vv_sh
  rw [hY]
  rcases hd with rfl | rfl <;> exact ⟨by decide, rfl⟩
abbrev is_X3 (d : Nat) : Prop := d = 42 ∨ d = 46
theorem s_X3 {Y : vv_Y} (hY : Y.2.2.2.2 = wC) {d : Nat} (hd : is_X3 d) : d < Y.2.2.2.2.2 ∧ vv_sh Y d = .inl (3, [4 + 1, d + 1 + 1, d + 2 + 1, d + 3 + 1, 0, 0, 0, 0, 0, 0, 0, 0, 0, 0, 0, 0]) := by
  unfold vv_sh
  rw [hY]
  rcases hd with rfl | rfl <;> exact ⟨by decide, rfl⟩
theorem a_X3_heights {Y : vv_Y} (hY : Y.2.2.2.2 = wC) {d : Nat} (hd : is_X3 d) : d + 1 < Y.2.2.2.2.2 ∧ vv_sh Y (d + 1) = .inr (.inl 8) := by
  unfold vv_sh
  rw [hY]
  rcases hd with rfl | rfl <;> exact ⟨by decide, rfl⟩
theorem a_X3_stuffs {Y : vv_Y} (hY : Y.2.2.2.2 = wC) {d : Nat} (hd : is_X3 d) : d + 2 < Y.2.2.2.2.2 ∧ vv_sh Y (d + 2) = .inr (.inl 8) := by
  unfold vv_sh
  rw [hY]
  rcases hd with rfl | rfl <;> exact ⟨by decide, rfl⟩
theorem a_X3_breaches {Y : vv_Y} (hY : Y.2.2.2.2 = wC) {d : Nat} (hd : is_X3 d) : d + 3 < Y.2.2.2.2.2 ∧ vv_sh Y (d + 3) = .inr (.inl 8) := by
  unfold vv_sh
  rw [hY]
  rcases hd with rfl | rfl <;> exact ⟨by decide, rfl⟩
abbrev is_X4 (d : Nat) : Prop := d = 4 ∨ d = 23
theorem s_X4 {Y : vv_Y} (hY : Y.2.2.2.2 = wC) {d : Nat} (hd : is_X4 d) : d < Y.2.2.2.2.2 ∧ vv_sh Y d = .inl (4, [d + 1 + 1, d + 2 + 1, 0, 0, 0, 0, 0, d + 3 + 1, d + 10 + 1]) := by
  unfold vv_sh
  rw [hY]
  rcases hd with rfl | rfl <;> exact ⟨by decide, rfl⟩
theorem a_X4_heights {Y : vv_Y} (hY : Y.2.2.2.2 = wC) {d : Nat} (hd : is_X4 d) : d + 1 < Y.2.2.2.2.2 ∧ vv_sh Y (d + 1) = .inr (.inl 8) := by
  unfold vv_sh
  rw [hY]
  rcases hd with rfl | rfl <;> exact ⟨by decide, rfl⟩
theorem a_X4_stuffs {Y : vv_Y} (hY : Y.2.2.2.2 = wC) {d : Nat} (hd : is_X4 d) : d + 2 < Y.2.2.2.2.2 ∧ vv_sh Y (d + 2) = .inr (.inl 8) := by
  unfold vv_sh
  rw [hY]
  rcases hd with rfl | rfl <;> exact ⟨by decide, rfl⟩
abbrev is_X5 (d : Nat) : Prop := d = 69 ∨ d = 71
theorem s_X5 {Y : vv_Y} (hY : Y.2.2.2.2 = wC) {d : Nat} (hd : is_X5 d) : d < Y.2.2.2.2.2 ∧ vv_sh Y d = .inl (5, [d + 1 + 1, 0]) := by
  unfold vv_sh
  rw [hY]
  rcases hd with rfl | rfl <;> exact ⟨by decide, rfl⟩
theorem a_X5_inches {Y : vv_Y} (hY : Y.2.2.2.2 = wC) {d : Nat} (hd : is_X5 d) : d + 1 < Y.2.2.2.2.2 ∧ vv_sh Y (d + 1) = .inr (.inl 8) := by
  unfold vv_sh
  rw [hY]
  rcases hd with rfl | rfl <;> exact ⟨by decide, rfl⟩
theorem s_X6 {Y : vv_Y} (hY : Y.2.2.2.2 = wC) : 66 < Y.2.2.2.2.2 ∧ vv_sh Y 66 = .inl (6, [67 + 1, 68 + 1, 0]) := by
  unfold vv_sh
  rw [hY]
  exact ⟨by decide, rfl⟩
theorem a_X6_levels {Y : vv_Y} (hY : Y.2.2.2.2 = wC) : 67 < Y.2.2.2.2.2 ∧ vv_sh Y 67 = .inr (.inl 8) := by
  unfold vv_sh
  rw [hY]
  exact ⟨by decide, rfl⟩
theorem a_X6_times {Y : vv_Y} (hY : Y.2.2.2.2 = wC) : 68 < Y.2.2.2.2.2 ∧ vv_sh Y 68 = .inr (.inl 8) := by
  unfold vv_sh
  rw [hY]
  exact ⟨by decide, rfl⟩
theorem s_X7 {Y : vv_Y} (hY : Y.2.2.2.2 = wC) : 1 < Y.2.2.2.2.2 ∧ vv_sh Y 1 = .inl (7, [2 + 1, 0, 3 + 1, 0]) := by
  unfold vv_sh
  rw [hY]
  exact ⟨by decide, rfl⟩
theorem a_X7_letters {Y : vv_Y} (hY : Y.2.2.2.2 = wC) : 2 < Y.2.2.2.2.2 ∧ vv_sh Y 2 = .inr (.inl 200) := by
  unfold vv_sh
  rw [hY]
  exact ⟨by decide, rfl⟩
theorem a_X7_numbers {Y : vv_Y} (hY : Y.2.2.2.2 = wC) : 3 < Y.2.2.2.2.2 ∧ vv_sh Y 3 = .inr (.inl 4) := by
  unfold vv_sh
  rw [hY]
  exact ⟨by decide, rfl⟩
theorem s_X8 {Y : vv_Y} (hY : Y.2.2.2.2 = wC) : 0 < Y.2.2.2.2.2 ∧ vv_sh Y 0 = .inl (8, [1 + 1, 4 + 1, 23 + 1, 42 + 1, 46 + 1, 50 + 1, 65 + 1, 0, 66 + 1, 69 + 1, 71 + 1]) := by
  unfold vv_sh
  rw [hY]
  exact ⟨by decide, rfl⟩
theorem s_X9 {Y : vv_Y} (hY : Y.2.2.2.2 = wM) : 0 < Y.2.2.2.2.2 ∧ vv_sh Y 0 = .inl (9, [0, 1 + 1, 2 + 1, 3 + 1, 4 + 1, 5 + 1, 6 + 1, 7 + 1, 8 + 1, 9 + 1, 10 + 1, 11 + 1, 12 + 1, 13 + 1, 14 + 1, 15 + 1, 16 + 1, 17 + 1, 18 + 1, 19 + 1, 20 + 1, 21 + 1, 22 + 1, 23 + 1, 24 + 1, 0, 0, 25 + 1, 26 + 1, 0, 27 + 1, 28 + 1, 29 + 1, 30 + 1, 31 + 1, 32 + 1, 33 + 1, 34 + 1, 0, 0, 0, 0, 35 + 1, 36 + 1, 37 + 1, 38 + 1, 39 + 1, 0]) := by
  unfold vv_sh
  rw [hY]
  exact ⟨by decide, rfl⟩
theorem a_X9_text {Y : vv_Y} (hY : Y.2.2.2.2 = wM) : 1 < Y.2.2.2.2.2 ∧ vv_sh Y 1 = .inr (.inl 200) := by
  unfold vv_sh
  rw [hY]
  exact ⟨by decide, rfl⟩
theorem a_X9_cells {Y : vv_Y} (hY : Y.2.2.2.2 = wM) : 2 < Y.2.2.2.2.2 ∧ vv_sh Y 2 = .inr (.inl 2) := by
  unfold vv_sh
  rw [hY]
  exact ⟨by decide, rfl⟩
theorem a_X9_tall {Y : vv_Y} (hY : Y.2.2.2.2 = wM) : 3 < Y.2.2.2.2.2 ∧ vv_sh Y 3 = .inr (.inl 16) := by
  unfold vv_sh
  rw [hY]
  exact ⟨by decide, rfl⟩
theorem a_X9_stuffs {Y : vv_Y} (hY : Y.2.2.2.2 = wM) : 4 < Y.2.2.2.2.2 ∧ vv_sh Y 4 = .inr (.inl 16) := by
  unfold vv_sh
  rw [hY]
  exact ⟨by decide, rfl⟩
theorem a_X9_banks {Y : vv_Y} (hY : Y.2.2.2.2 = wM) : 5 < Y.2.2.2.2.2 ∧ vv_sh Y 5 = .inr (.inl 4) := by
  unfold vv_sh
  rw [hY]
  exact ⟨by decide, rfl⟩
theorem a_X9_basin {Y : vv_Y} (hY : Y.2.2.2.2 = wM) : 6 < Y.2.2.2.2.2 ∧ vv_sh Y 6 = .inr (.inl 4) := by
  unfold vv_sh
  rw [hY]
  exact ⟨by decide, rfl⟩
theorem a_X9_flows {Y : vv_Y} (hY : Y.2.2.2.2 = wM) : 7 < Y.2.2.2.2.2 ∧ vv_sh Y 7 = .inr (.inl 2) := by
  unfold vv_sh
  rw [hY]
  exact ⟨by decide, rfl⟩
theorem a_X9_flowFrom {Y : vv_Y} (hY : Y.2.2.2.2 = wM) : 8 < Y.2.2.2.2.2 ∧ vv_sh Y 8 = .inr (.inl 8) := by
  unfold vv_sh
  rw [hY]
  exact ⟨by decide, rfl⟩
theorem a_X9_flowBy {Y : vv_Y} (hY : Y.2.2.2.2 = wM) : 9 < Y.2.2.2.2.2 ∧ vv_sh Y 9 = .inr (.inl 8) := by
  unfold vv_sh
  rw [hY]
  exact ⟨by decide, rfl⟩
theorem a_X9_rains {Y : vv_Y} (hY : Y.2.2.2.2 = wM) : 10 < Y.2.2.2.2.2 ∧ vv_sh Y 10 = .inr (.inl 2) := by
  unfold vv_sh
  rw [hY]
  exact ⟨by decide, rfl⟩
theorem a_X9_rainFrom {Y : vv_Y} (hY : Y.2.2.2.2 = wM) : 11 < Y.2.2.2.2.2 ∧ vv_sh Y 11 = .inr (.inl 8) := by
  unfold vv_sh
  rw [hY]
  exact ⟨by decide, rfl⟩
theorem a_X9_rainTo {Y : vv_Y} (hY : Y.2.2.2.2 = wM) : 12 < Y.2.2.2.2.2 ∧ vv_sh Y 12 = .inr (.inl 8) := by
  unfold vv_sh
  rw [hY]
  exact ⟨by decide, rfl⟩
theorem a_X9_rainBy {Y : vv_Y} (hY : Y.2.2.2.2 = wM) : 13 < Y.2.2.2.2.2 ∧ vv_sh Y 13 = .inr (.inl 8) := by
  unfold vv_sh
  rw [hY]
  exact ⟨by decide, rfl⟩
theorem a_X9_children {Y : vv_Y} (hY : Y.2.2.2.2 = wM) : 14 < Y.2.2.2.2.2 ∧ vv_sh Y 14 = .inr (.inl 2) := by
  unfold vv_sh
  rw [hY]
  exact ⟨by decide, rfl⟩
theorem a_X9_lays {Y : vv_Y} (hY : Y.2.2.2.2 = wM) : 15 < Y.2.2.2.2.2 ∧ vv_sh Y 15 = .inr (.inl 32) := by
  unfold vv_sh
  rw [hY]
  exact ⟨by decide, rfl⟩
theorem a_X9_jobs {Y : vv_Y} (hY : Y.2.2.2.2 = wM) : 16 < Y.2.2.2.2.2 ∧ vv_sh Y 16 = .inr (.inl 2) := by
  unfold vv_sh
  rw [hY]
  exact ⟨by decide, rfl⟩
theorem a_X9_jobCell {Y : vv_Y} (hY : Y.2.2.2.2 = wM) : 17 < Y.2.2.2.2.2 ∧ vv_sh Y 17 = .inr (.inl 10) := by
  unfold vv_sh
  rw [hY]
  exact ⟨by decide, rfl⟩
theorem a_X9_jobStuff {Y : vv_Y} (hY : Y.2.2.2.2 = wM) : 18 < Y.2.2.2.2.2 ∧ vv_sh Y 18 = .inr (.inl 10) := by
  unfold vv_sh
  rw [hY]
  exact ⟨by decide, rfl⟩
theorem a_X9_jobInches {Y : vv_Y} (hY : Y.2.2.2.2 = wM) : 19 < Y.2.2.2.2.2 ∧ vv_sh Y 19 = .inr (.inl 10) := by
  unfold vv_sh
  rw [hY]
  exact ⟨by decide, rfl⟩
theorem a_X9_acts {Y : vv_Y} (hY : Y.2.2.2.2 = wM) : 20 < Y.2.2.2.2.2 ∧ vv_sh Y 20 = .inr (.inl 3) := by
  unfold vv_sh
  rw [hY]
  exact ⟨by decide, rfl⟩
theorem a_X9_actKind {Y : vv_Y} (hY : Y.2.2.2.2 = wM) : 21 < Y.2.2.2.2.2 ∧ vv_sh Y 21 = .inr (.inl 90) := by
  unfold vv_sh
  rw [hY]
  exact ⟨by decide, rfl⟩
theorem a_X9_actCell {Y : vv_Y} (hY : Y.2.2.2.2 = wM) : 22 < Y.2.2.2.2.2 ∧ vv_sh Y 22 = .inr (.inl 90) := by
  unfold vv_sh
  rw [hY]
  exact ⟨by decide, rfl⟩
theorem a_X9_actStuff {Y : vv_Y} (hY : Y.2.2.2.2 = wM) : 23 < Y.2.2.2.2.2 ∧ vv_sh Y 23 = .inr (.inl 90) := by
  unfold vv_sh
  rw [hY]
  exact ⟨by decide, rfl⟩
theorem a_X9_actMany {Y : vv_Y} (hY : Y.2.2.2.2 = wM) : 24 < Y.2.2.2.2.2 ∧ vv_sh Y 24 = .inr (.inl 90) := by
  unfold vv_sh
  rw [hY]
  exact ⟨by decide, rfl⟩
theorem a_X9_seenLevel {Y : vv_Y} (hY : Y.2.2.2.2 = wM) : 25 < Y.2.2.2.2.2 ∧ vv_sh Y 25 = .inr (.inl 8) := by
  unfold vv_sh
  rw [hY]
  exact ⟨by decide, rfl⟩
theorem a_X9_seenBy {Y : vv_Y} (hY : Y.2.2.2.2 = wM) : 26 < Y.2.2.2.2.2 ∧ vv_sh Y 26 = .inr (.inl 8) := by
  unfold vv_sh
  rw [hY]
  exact ⟨by decide, rfl⟩
theorem a_X9_told {Y : vv_Y} (hY : Y.2.2.2.2 = wM) : 27 < Y.2.2.2.2.2 ∧ vv_sh Y 27 = .inr (.inl 4) := by
  unfold vv_sh
  rw [hY]
  exact ⟨by decide, rfl⟩
theorem a_X9_high {Y : vv_Y} (hY : Y.2.2.2.2 = wM) : 28 < Y.2.2.2.2.2 ∧ vv_sh Y 28 = .inr (.inl 16) := by
  unfold vv_sh
  rw [hY]
  exact ⟨by decide, rfl⟩
theorem a_X9_of {Y : vv_Y} (hY : Y.2.2.2.2 = wM) : 29 < Y.2.2.2.2.2 ∧ vv_sh Y 29 = .inr (.inl 16) := by
  unfold vv_sh
  rw [hY]
  exact ⟨by decide, rfl⟩
theorem a_X9_breached {Y : vv_Y} (hY : Y.2.2.2.2 = wM) : 30 < Y.2.2.2.2.2 ∧ vv_sh Y 30 = .inr (.inl 16) := by
  unfold vv_sh
  rw [hY]
  exact ⟨by decide, rfl⟩
theorem a_X9_water {Y : vv_Y} (hY : Y.2.2.2.2 = wM) : 31 < Y.2.2.2.2.2 ∧ vv_sh Y 31 = .inr (.inl 2) := by
  unfold vv_sh
  rw [hY]
  exact ⟨by decide, rfl⟩
theorem a_X9_minutes {Y : vv_Y} (hY : Y.2.2.2.2 = wM) : 32 < Y.2.2.2.2.2 ∧ vv_sh Y 32 = .inr (.inl 2) := by
  unfold vv_sh
  rw [hY]
  exact ⟨by decide, rfl⟩
theorem a_X9_overAll {Y : vv_Y} (hY : Y.2.2.2.2 = wM) : 33 < Y.2.2.2.2.2 ∧ vv_sh Y 33 = .inr (.inl 2) := by
  unfold vv_sh
  rw [hY]
  exact ⟨by decide, rfl⟩
theorem a_X9_seepAll {Y : vv_Y} (hY : Y.2.2.2.2 = wM) : 34 < Y.2.2.2.2.2 ∧ vv_sh Y 34 = .inr (.inl 2) := by
  unfold vv_sh
  rw [hY]
  exact ⟨by decide, rfl⟩
theorem a_X9_row {Y : vv_Y} (hY : Y.2.2.2.2 = wM) : 35 < Y.2.2.2.2.2 ∧ vv_sh Y 35 = .inr (.inl 8) := by
  unfold vv_sh
  rw [hY]
  exact ⟨by decide, rfl⟩
theorem a_X9_bestRow {Y : vv_Y} (hY : Y.2.2.2.2 = wM) : 36 < Y.2.2.2.2.2 ∧ vv_sh Y 36 = .inr (.inl 8) := by
  unfold vv_sh
  rw [hY]
  exact ⟨by decide, rfl⟩
theorem a_X9_busy {Y : vv_Y} (hY : Y.2.2.2.2 = wM) : 37 < Y.2.2.2.2.2 ∧ vv_sh Y 37 = .inr (.inl 4) := by
  unfold vv_sh
  rw [hY]
  exact ⟨by decide, rfl⟩
theorem a_X9_doer {Y : vv_Y} (hY : Y.2.2.2.2 = wM) : 38 < Y.2.2.2.2.2 ∧ vv_sh Y 38 = .inr (.inl 5) := by
  unfold vv_sh
  rw [hY]
  exact ⟨by decide, rfl⟩
theorem a_X9_bestDoer {Y : vv_Y} (hY : Y.2.2.2.2 = wM) : 39 < Y.2.2.2.2.2 ∧ vv_sh Y 39 = .inr (.inl 5) := by
  unfold vv_sh
  rw [hY]
  exact ⟨by decide, rfl⟩
theorem a_X2_lays {Y : vv_Y} (hY : Y.2.2.2.2 = wC) {d : Nat} (hd : is_X2 d) : d + 1 < Y.2.2.2.2.2 ∧ vv_sh Y (d + 1) = .inr (.inr (2, 4, d + 2, 1)) := by
  unfold vv_sh
  rw [hY]
  rcases hd with rfl | rfl <;> exact ⟨by decide, rfl⟩
theorem vv_in4 {i : Int32} (h : vp_in i 4) : i.toNatClampNeg = 0 ∨ i.toNatClampNeg = 1 ∨ i.toNatClampNeg = 2 ∨ i.toNatClampNeg = 3 := by
  have : i.toNatClampNeg < 4 := Nat.not_le.mp fun q => h (Or.inr q)
  omega
theorem vv_in2 {i : Int32} (h : vp_in i 2) : i.toNatClampNeg = 0 ∨ i.toNatClampNeg = 1 := by
  have : i.toNatClampNeg < 2 := Nat.not_le.mp fun q => h (Or.inr q)
  omega
theorem r_X2_lays {Y : vv_Y} (hY : Y.2.2.2.2 = wC) {d : Nat} (hd : is_X2 d) {i : Int32} (hi : vp_in i 4) : d + 2 + 1 * i.toNatClampNeg < Y.2.2.2.2.2 ∧ vv_sh Y (d + 2 + 1 * i.toNatClampNeg) = .inr (.inl 4) := by
  unfold vv_sh
  rw [hY]
  rcases vv_in4 hi with h | h | h | h <;> rw [h] <;> rcases hd with rfl | rfl <;> exact ⟨by decide, rfl⟩
theorem a_X8_kept {Y : vv_Y} (hY : Y.2.2.2.2 = wC) : 65 < Y.2.2.2.2.2 ∧ vv_sh Y 65 = .inr (.inr (1, 2, 55, 5)) := by
  unfold vv_sh
  rw [hY]
  exact ⟨by decide, rfl⟩
theorem is_X0_kept {i : Int32} (hi : vp_in i 2) : is_X0 (55 + 5 * i.toNatClampNeg) := by
  rcases vv_in2 hi with h | h <;> rw [h] <;> decide
theorem is_X1_of {d : Nat} (hd : is_X4 d) : is_X1 (d + 3) := by rcases hd with rfl | rfl <;> decide
theorem is_X2_of {d : Nat} (hd : is_X4 d) : is_X2 (d + 10) := by rcases hd with rfl | rfl <;> decide
end
section
theorem ki_m1 : Int32.ofInt (-1) = (-1 : Int32) := by decide
theorem ki_0 : Int32.ofInt (0) = (0 : Int32) := by decide
theorem ki_1 : Int32.ofInt (1) = (1 : Int32) := by decide
theorem ki_2 : Int32.ofInt (2) = (2 : Int32) := by decide
theorem ki_3 : Int32.ofInt (3) = (3 : Int32) := by decide
theorem ki_4 : Int32.ofInt (4) = (4 : Int32) := by decide
theorem ki_5 : Int32.ofInt (5) = (5 : Int32) := by decide
theorem kb_m4 : (Int8.ofInt (-4)).toInt32 = (-4 : Int32) := by decide
theorem kb_m3 : (Int8.ofInt (-3)).toInt32 = (-3 : Int32) := by decide
theorem kb_m2 : (Int8.ofInt (-2)).toInt32 = (-2 : Int32) := by decide
theorem kb_6 : (Int8.ofInt (6)).toInt32 = (6 : Int32) := by decide
theorem kb_8 : (Int8.ofInt (8)).toInt32 = (8 : Int32) := by decide
theorem kb_9 : (Int8.ofInt (9)).toInt32 = (9 : Int32) := by decide
theorem kb_10 : (Int8.ofInt (10)).toInt32 = (10 : Int32) := by decide
theorem kb_16 : (Int8.ofInt (16)).toInt32 = (16 : Int32) := by decide
theorem kb_20 : (Int8.ofInt (20)).toInt32 = (20 : Int32) := by decide
theorem kb_30 : (Int8.ofInt (30)).toInt32 = (30 : Int32) := by decide
theorem kb_32 : (Int8.ofInt (32)).toInt32 = (32 : Int32) := by decide
theorem kb_40 : (Int8.ofInt (40)).toInt32 = (40 : Int32) := by decide
theorem kb_44 : (Int8.ofInt (44)).toInt32 = (44 : Int32) := by decide
theorem kb_48 : (Int8.ofInt (48)).toInt32 = (48 : Int32) := by decide
theorem kb_50 : (Int8.ofInt (50)).toInt32 = (50 : Int32) := by decide
theorem kb_57 : (Int8.ofInt (57)).toInt32 = (57 : Int32) := by decide
theorem kb_59 : (Int8.ofInt (59)).toInt32 = (59 : Int32) := by decide
theorem kb_60 : (Int8.ofInt (60)).toInt32 = (60 : Int32) := by decide
theorem kb_99 : (Int8.ofInt (99)).toInt32 = (99 : Int32) := by decide
theorem kb_100 : (Int8.ofInt (100)).toInt32 = (100 : Int32) := by decide
theorem kb_126 : (Int8.ofInt (126)).toInt32 = (126 : Int32) := by decide
theorem ks_200 : (Int16.ofInt (200)).toInt32 = (200 : Int32) := by decide
theorem ks_999 : (Int16.ofInt (999)).toInt32 = (999 : Int32) := by decide
theorem ks_1000 : (Int16.ofInt (1000)).toInt32 = (1000 : Int32) := by decide
theorem ks_9999 : (Int16.ofInt (9999)).toInt32 = (9999 : Int32) := by decide
theorem kn_0 : (0 : Int32).toNatClampNeg = 0 := by decide
theorem kn_1 : (1 : Int32).toNatClampNeg = 1 := by decide
theorem kn_2 : (2 : Int32).toNatClampNeg = 2 := by decide
theorem kn_3 : (3 : Int32).toNatClampNeg = 3 := by decide
theorem kv_0_2 : vp_in (0 : Int32) 2 := by unfold vp_in; decide
theorem kv_0_3 : vp_in (0 : Int32) 3 := by unfold vp_in; decide
theorem kv_0_4 : vp_in (0 : Int32) 4 := by unfold vp_in; decide
theorem kv_0_8 : vp_in (0 : Int32) 8 := by unfold vp_in; decide
theorem kv_1_2 : vp_in (1 : Int32) 2 := by unfold vp_in; decide
theorem kv_1_4 : vp_in (1 : Int32) 4 := by unfold vp_in; decide
theorem kv_2_4 : vp_in (2 : Int32) 4 := by unfold vp_in; decide
theorem kv_3_4 : vp_in (3 : Int32) 4 := by unfold vp_in; decide
theorem kinc {x m : Int32} {n : Int} (h : Int32.ofInt n = m) : x + Int32.ofInt n = x + m := by rw [h]
end
section
theorem dX0_init_0 : decode cX0_init 0 = .ok (.aload_n 0, 1) := by decide +kernel
theorem dX0_init_1 : decode cX0_init 1 = .ok (.invokespecial 3, 3) := by decide +kernel
theorem dX0_init_4 : decode cX0_init 4 = .ok (.aload_n 0, 1) := by decide +kernel
theorem dX0_init_5 : decode cX0_init 5 = .ok (.bipush 30, 2) := by decide +kernel
theorem dX0_init_7 : decode cX0_init 7 = .ok (.newarray .int, 2) := by decide +kernel
theorem dX0_init_9 : decode cX0_init 9 = .ok (.putfield 9, 3) := by decide +kernel
theorem dX0_init_12 : decode cX0_init 12 = .ok (.aload_n 0, 1) := by decide +kernel
theorem dX0_init_13 : decode cX0_init 13 = .ok (.bipush 30, 2) := by decide +kernel
theorem dX0_init_15 : decode cX0_init 15 = .ok (.newarray .int, 2) := by decide +kernel
theorem dX0_init_17 : decode cX0_init 17 = .ok (.putfield 15, 3) := by decide +kernel
theorem dX0_init_20 : decode cX0_init 20 = .ok (.aload_n 0, 1) := by decide +kernel
theorem dX0_init_21 : decode cX0_init 21 = .ok (.bipush 30, 2) := by decide +kernel
theorem dX0_init_23 : decode cX0_init 23 = .ok (.newarray .int, 2) := by decide +kernel
theorem dX0_init_25 : decode cX0_init 25 = .ok (.putfield 18, 3) := by decide +kernel
theorem dX0_init_28 : decode cX0_init 28 = .ok (.aload_n 0, 1) := by decide +kernel
theorem dX0_init_29 : decode cX0_init 29 = .ok (.bipush 30, 2) := by decide +kernel
theorem dX0_init_31 : decode cX0_init 31 = .ok (.newarray .int, 2) := by decide +kernel
theorem dX0_init_33 : decode cX0_init 33 = .ok (.putfield 21, 3) := by decide +kernel
theorem dX0_init_36 : decode cX0_init 36 = .ok (.return_, 1) := by decide +kernel
theorem dX0_size_0 : decode cX0_size 0 = .ok (.aload_n 0, 1) := by decide +kernel
theorem dX0_size_1 : decode cX0_size 1 = .ok (.getfield 24, 3) := by decide +kernel
theorem dX0_size_4 : decode cX0_size 4 = .ok (.ireturn, 1) := by decide +kernel
theorem dX0_clear_0 : decode cX0_clear 0 = .ok (.aload_n 0, 1) := by decide +kernel
theorem dX0_clear_1 : decode cX0_clear 1 = .ok (.iconst 0, 1) := by decide +kernel
theorem dX0_clear_2 : decode cX0_clear 2 = .ok (.putfield 24, 3) := by decide +kernel
theorem dX0_clear_5 : decode cX0_clear 5 = .ok (.return_, 1) := by decide +kernel
theorem dX0_add_0 : decode cX0_add 0 = .ok (.aload_n 0, 1) := by decide +kernel
theorem dX0_add_1 : decode cX0_add 1 = .ok (.getfield 24, 3) := by decide +kernel
theorem dX0_add_4 : decode cX0_add 4 = .ok (.ifCond .lt 12, 3) := by decide +kernel
theorem dX0_add_7 : decode cX0_add 7 = .ok (.aload_n 0, 1) := by decide +kernel
theorem dX0_add_8 : decode cX0_add 8 = .ok (.getfield 24, 3) := by decide +kernel
theorem dX0_add_11 : decode cX0_add 11 = .ok (.bipush 30, 2) := by decide +kernel
theorem dX0_add_13 : decode cX0_add 13 = .ok (.if_icmp .lt 5, 3) := by decide +kernel
theorem dX0_add_16 : decode cX0_add 16 = .ok (.iconst 0, 1) := by decide +kernel
theorem dX0_add_17 : decode cX0_add 17 = .ok (.ireturn, 1) := by decide +kernel
theorem dX0_add_18 : decode cX0_add 18 = .ok (.aload_n 0, 1) := by decide +kernel
theorem dX0_add_19 : decode cX0_add 19 = .ok (.getfield 9, 3) := by decide +kernel
theorem dX0_add_22 : decode cX0_add 22 = .ok (.aload_n 0, 1) := by decide +kernel
theorem dX0_add_23 : decode cX0_add 23 = .ok (.getfield 24, 3) := by decide +kernel
theorem dX0_add_26 : decode cX0_add 26 = .ok (.iload_n 1, 1) := by decide +kernel
theorem dX0_add_27 : decode cX0_add 27 = .ok (.iastore, 1) := by decide +kernel
theorem dX0_add_28 : decode cX0_add 28 = .ok (.aload_n 0, 1) := by decide +kernel
theorem dX0_add_29 : decode cX0_add 29 = .ok (.getfield 15, 3) := by decide +kernel
theorem dX0_add_32 : decode cX0_add 32 = .ok (.aload_n 0, 1) := by decide +kernel
theorem dX0_add_33 : decode cX0_add 33 = .ok (.getfield 24, 3) := by decide +kernel
theorem dX0_add_36 : decode cX0_add 36 = .ok (.iload_n 2, 1) := by decide +kernel
theorem dX0_add_37 : decode cX0_add 37 = .ok (.iastore, 1) := by decide +kernel
theorem dX0_add_38 : decode cX0_add 38 = .ok (.aload_n 0, 1) := by decide +kernel
theorem dX0_add_39 : decode cX0_add 39 = .ok (.getfield 18, 3) := by decide +kernel
theorem dX0_add_42 : decode cX0_add 42 = .ok (.aload_n 0, 1) := by decide +kernel
theorem dX0_add_43 : decode cX0_add 43 = .ok (.getfield 24, 3) := by decide +kernel
theorem dX0_add_46 : decode cX0_add 46 = .ok (.iload_n 3, 1) := by decide +kernel
theorem dX0_add_47 : decode cX0_add 47 = .ok (.iastore, 1) := by decide +kernel
theorem dX0_add_48 : decode cX0_add 48 = .ok (.aload_n 0, 1) := by decide +kernel
theorem dX0_add_49 : decode cX0_add 49 = .ok (.getfield 21, 3) := by decide +kernel
theorem dX0_add_52 : decode cX0_add 52 = .ok (.aload_n 0, 1) := by decide +kernel
theorem dX0_add_53 : decode cX0_add 53 = .ok (.getfield 24, 3) := by decide +kernel
theorem dX0_add_56 : decode cX0_add 56 = .ok (.iload 4, 2) := by decide +kernel
theorem dX0_add_58 : decode cX0_add 58 = .ok (.iastore, 1) := by decide +kernel
theorem dX0_add_59 : decode cX0_add 59 = .ok (.aload_n 0, 1) := by decide +kernel
theorem dX0_add_60 : decode cX0_add 60 = .ok (.dup, 1) := by decide +kernel
theorem dX0_add_61 : decode cX0_add 61 = .ok (.getfield 24, 3) := by decide +kernel
theorem dX0_add_64 : decode cX0_add 64 = .ok (.iconst 1, 1) := by decide +kernel
theorem dX0_add_65 : decode cX0_add 65 = .ok (.iadd, 1) := by decide +kernel
theorem dX0_add_66 : decode cX0_add 66 = .ok (.putfield 24, 3) := by decide +kernel
theorem dX0_add_69 : decode cX0_add 69 = .ok (.iconst 1, 1) := by decide +kernel
theorem dX0_add_70 : decode cX0_add 70 = .ok (.ireturn, 1) := by decide +kernel
theorem dX0_dropLast_0 : decode cX0_dropLast 0 = .ok (.aload_n 0, 1) := by decide +kernel
theorem dX0_dropLast_1 : decode cX0_dropLast 1 = .ok (.iconst 0, 1) := by decide +kernel
theorem dX0_dropLast_2 : decode cX0_dropLast 2 = .ok (.aload_n 0, 1) := by decide +kernel
theorem dX0_dropLast_3 : decode cX0_dropLast 3 = .ok (.getfield 24, 3) := by decide +kernel
theorem dX0_dropLast_6 : decode cX0_dropLast 6 = .ok (.iconst 1, 1) := by decide +kernel
theorem dX0_dropLast_7 : decode cX0_dropLast 7 = .ok (.isub, 1) := by decide +kernel
theorem dX0_dropLast_8 : decode cX0_dropLast 8 = .ok (.invokestatic 28, 3) := by decide +kernel
theorem dX0_dropLast_11 : decode cX0_dropLast 11 = .ok (.putfield 24, 3) := by decide +kernel
theorem dX0_dropLast_14 : decode cX0_dropLast 14 = .ok (.return_, 1) := by decide +kernel
theorem dX0_copyFrom_0 : decode cX0_copyFrom 0 = .ok (.iconst 0, 1) := by decide +kernel
theorem dX0_copyFrom_1 : decode cX0_copyFrom 1 = .ok (.istore_n 2, 1) := by decide +kernel
theorem dX0_copyFrom_2 : decode cX0_copyFrom 2 = .ok (.iload_n 2, 1) := by decide +kernel
theorem dX0_copyFrom_3 : decode cX0_copyFrom 3 = .ok (.bipush 30, 2) := by decide +kernel
theorem dX0_copyFrom_5 : decode cX0_copyFrom 5 = .ok (.if_icmp .ge 57, 3) := by decide +kernel
theorem dX0_copyFrom_8 : decode cX0_copyFrom 8 = .ok (.aload_n 0, 1) := by decide +kernel
theorem dX0_copyFrom_9 : decode cX0_copyFrom 9 = .ok (.getfield 9, 3) := by decide +kernel
theorem dX0_copyFrom_12 : decode cX0_copyFrom 12 = .ok (.iload_n 2, 1) := by decide +kernel
theorem dX0_copyFrom_13 : decode cX0_copyFrom 13 = .ok (.aload_n 1, 1) := by decide +kernel
theorem dX0_copyFrom_14 : decode cX0_copyFrom 14 = .ok (.getfield 9, 3) := by decide +kernel
theorem dX0_copyFrom_17 : decode cX0_copyFrom 17 = .ok (.iload_n 2, 1) := by decide +kernel
theorem dX0_copyFrom_18 : decode cX0_copyFrom 18 = .ok (.iaload, 1) := by decide +kernel
theorem dX0_copyFrom_19 : decode cX0_copyFrom 19 = .ok (.iastore, 1) := by decide +kernel
theorem dX0_copyFrom_20 : decode cX0_copyFrom 20 = .ok (.aload_n 0, 1) := by decide +kernel
theorem dX0_copyFrom_21 : decode cX0_copyFrom 21 = .ok (.getfield 15, 3) := by decide +kernel
theorem dX0_copyFrom_24 : decode cX0_copyFrom 24 = .ok (.iload_n 2, 1) := by decide +kernel
theorem dX0_copyFrom_25 : decode cX0_copyFrom 25 = .ok (.aload_n 1, 1) := by decide +kernel
theorem dX0_copyFrom_26 : decode cX0_copyFrom 26 = .ok (.getfield 15, 3) := by decide +kernel
theorem dX0_copyFrom_29 : decode cX0_copyFrom 29 = .ok (.iload_n 2, 1) := by decide +kernel
theorem dX0_copyFrom_30 : decode cX0_copyFrom 30 = .ok (.iaload, 1) := by decide +kernel
theorem dX0_copyFrom_31 : decode cX0_copyFrom 31 = .ok (.iastore, 1) := by decide +kernel
theorem dX0_copyFrom_32 : decode cX0_copyFrom 32 = .ok (.aload_n 0, 1) := by decide +kernel
theorem dX0_copyFrom_33 : decode cX0_copyFrom 33 = .ok (.getfield 18, 3) := by decide +kernel
theorem dX0_copyFrom_36 : decode cX0_copyFrom 36 = .ok (.iload_n 2, 1) := by decide +kernel
theorem dX0_copyFrom_37 : decode cX0_copyFrom 37 = .ok (.aload_n 1, 1) := by decide +kernel
theorem dX0_copyFrom_38 : decode cX0_copyFrom 38 = .ok (.getfield 18, 3) := by decide +kernel
theorem dX0_copyFrom_41 : decode cX0_copyFrom 41 = .ok (.iload_n 2, 1) := by decide +kernel
theorem dX0_copyFrom_42 : decode cX0_copyFrom 42 = .ok (.iaload, 1) := by decide +kernel
theorem dX0_copyFrom_43 : decode cX0_copyFrom 43 = .ok (.iastore, 1) := by decide +kernel
theorem dX0_copyFrom_44 : decode cX0_copyFrom 44 = .ok (.aload_n 0, 1) := by decide +kernel
theorem dX0_copyFrom_45 : decode cX0_copyFrom 45 = .ok (.getfield 21, 3) := by decide +kernel
theorem dX0_copyFrom_48 : decode cX0_copyFrom 48 = .ok (.iload_n 2, 1) := by decide +kernel
theorem dX0_copyFrom_49 : decode cX0_copyFrom 49 = .ok (.aload_n 1, 1) := by decide +kernel
theorem dX0_copyFrom_50 : decode cX0_copyFrom 50 = .ok (.getfield 21, 3) := by decide +kernel
theorem dX0_copyFrom_53 : decode cX0_copyFrom 53 = .ok (.iload_n 2, 1) := by decide +kernel
theorem dX0_copyFrom_54 : decode cX0_copyFrom 54 = .ok (.iaload, 1) := by decide +kernel
theorem dX0_copyFrom_55 : decode cX0_copyFrom 55 = .ok (.iastore, 1) := by decide +kernel
theorem dX0_copyFrom_56 : decode cX0_copyFrom 56 = .ok (.iinc 2 1, 3) := by decide +kernel
theorem dX0_copyFrom_59 : decode cX0_copyFrom 59 = .ok (.goto (-57), 3) := by decide +kernel
theorem dX0_copyFrom_62 : decode cX0_copyFrom 62 = .ok (.aload_n 0, 1) := by decide +kernel
theorem dX0_copyFrom_63 : decode cX0_copyFrom 63 = .ok (.aload_n 1, 1) := by decide +kernel
theorem dX0_copyFrom_64 : decode cX0_copyFrom 64 = .ok (.getfield 24, 3) := by decide +kernel
theorem dX0_copyFrom_67 : decode cX0_copyFrom 67 = .ok (.putfield 24, 3) := by decide +kernel
theorem dX0_copyFrom_70 : decode cX0_copyFrom 70 = .ok (.return_, 1) := by decide +kernel
theorem dX0_doAllBut_0 : decode cX0_doAllBut 0 = .ok (.aload_n 2, 1) := by decide +kernel
theorem dX0_doAllBut_1 : decode cX0_doAllBut 1 = .ok (.invokevirtual 34, 3) := by decide +kernel
theorem dX0_doAllBut_4 : decode cX0_doAllBut 4 = .ok (.iconst 0, 1) := by decide +kernel
theorem dX0_doAllBut_5 : decode cX0_doAllBut 5 = .ok (.istore_n 3, 1) := by decide +kernel
theorem dX0_doAllBut_6 : decode cX0_doAllBut 6 = .ok (.iload_n 3, 1) := by decide +kernel
theorem dX0_doAllBut_7 : decode cX0_doAllBut 7 = .ok (.aload_n 0, 1) := by decide +kernel
theorem dX0_doAllBut_8 : decode cX0_doAllBut 8 = .ok (.getfield 24, 3) := by decide +kernel
theorem dX0_doAllBut_11 : decode cX0_doAllBut 11 = .ok (.if_icmp .ge 48, 3) := by decide +kernel
theorem dX0_doAllBut_14 : decode cX0_doAllBut 14 = .ok (.iload_n 3, 1) := by decide +kernel
theorem dX0_doAllBut_15 : decode cX0_doAllBut 15 = .ok (.bipush 30, 2) := by decide +kernel
theorem dX0_doAllBut_17 : decode cX0_doAllBut 17 = .ok (.if_icmp .ge 42, 3) := by decide +kernel
theorem dX0_doAllBut_20 : decode cX0_doAllBut 20 = .ok (.iload_n 3, 1) := by decide +kernel
theorem dX0_doAllBut_21 : decode cX0_doAllBut 21 = .ok (.iload_n 1, 1) := by decide +kernel
theorem dX0_doAllBut_22 : decode cX0_doAllBut 22 = .ok (.if_icmp .eq 31, 3) := by decide +kernel
theorem dX0_doAllBut_25 : decode cX0_doAllBut 25 = .ok (.aload_n 0, 1) := by decide +kernel
theorem dX0_doAllBut_26 : decode cX0_doAllBut 26 = .ok (.getfield 9, 3) := by decide +kernel
theorem dX0_doAllBut_29 : decode cX0_doAllBut 29 = .ok (.iload_n 3, 1) := by decide +kernel
theorem dX0_doAllBut_30 : decode cX0_doAllBut 30 = .ok (.iaload, 1) := by decide +kernel
theorem dX0_doAllBut_31 : decode cX0_doAllBut 31 = .ok (.aload_n 0, 1) := by decide +kernel
theorem dX0_doAllBut_32 : decode cX0_doAllBut 32 = .ok (.getfield 15, 3) := by decide +kernel
theorem dX0_doAllBut_35 : decode cX0_doAllBut 35 = .ok (.iload_n 3, 1) := by decide +kernel
theorem dX0_doAllBut_36 : decode cX0_doAllBut 36 = .ok (.iaload, 1) := by decide +kernel
theorem dX0_doAllBut_37 : decode cX0_doAllBut 37 = .ok (.aload_n 0, 1) := by decide +kernel
theorem dX0_doAllBut_38 : decode cX0_doAllBut 38 = .ok (.getfield 18, 3) := by decide +kernel
theorem dX0_doAllBut_41 : decode cX0_doAllBut 41 = .ok (.iload_n 3, 1) := by decide +kernel
theorem dX0_doAllBut_42 : decode cX0_doAllBut 42 = .ok (.iaload, 1) := by decide +kernel
theorem dX0_doAllBut_43 : decode cX0_doAllBut 43 = .ok (.aload_n 0, 1) := by decide +kernel
theorem dX0_doAllBut_44 : decode cX0_doAllBut 44 = .ok (.getfield 21, 3) := by decide +kernel
theorem dX0_doAllBut_47 : decode cX0_doAllBut 47 = .ok (.iload_n 3, 1) := by decide +kernel
theorem dX0_doAllBut_48 : decode cX0_doAllBut 48 = .ok (.iaload, 1) := by decide +kernel
theorem dX0_doAllBut_49 : decode cX0_doAllBut 49 = .ok (.aload_n 2, 1) := by decide +kernel
theorem dX0_doAllBut_50 : decode cX0_doAllBut 50 = .ok (.invokestatic 39, 3) := by decide +kernel
theorem dX0_doAllBut_53 : decode cX0_doAllBut 53 = .ok (.iinc 3 1, 3) := by decide +kernel
theorem dX0_doAllBut_56 : decode cX0_doAllBut 56 = .ok (.goto (-50), 3) := by decide +kernel
theorem dX0_doAllBut_59 : decode cX0_doAllBut 59 = .ok (.return_, 1) := by decide +kernel
theorem dX0_doOne_0 : decode cX0_doOne 0 = .ok (.iload_n 0, 1) := by decide +kernel
theorem dX0_doOne_1 : decode cX0_doOne 1 = .ok (.ifCond .ne 24, 3) := by decide +kernel
theorem dX0_doOne_4 : decode cX0_doOne 4 = .ok (.aload 4, 2) := by decide +kernel
theorem dX0_doOne_6 : decode cX0_doOne 6 = .ok (.iload_n 1, 1) := by decide +kernel
theorem dX0_doOne_7 : decode cX0_doOne 7 = .ok (.iload_n 3, 1) := by decide +kernel
theorem dX0_doOne_8 : decode cX0_doOne 8 = .ok (.invokevirtual 43, 3) := by decide +kernel
theorem dX0_doOne_11 : decode cX0_doOne 11 = .ok (.ifCond .eq 14, 3) := by decide +kernel
theorem dX0_doOne_14 : decode cX0_doOne 14 = .ok (.aload 4, 2) := by decide +kernel
theorem dX0_doOne_16 : decode cX0_doOne 16 = .ok (.iload_n 1, 1) := by decide +kernel
theorem dX0_doOne_17 : decode cX0_doOne 17 = .ok (.iload_n 2, 1) := by decide +kernel
theorem dX0_doOne_18 : decode cX0_doOne 18 = .ok (.iload_n 3, 1) := by decide +kernel
theorem dX0_doOne_19 : decode cX0_doOne 19 = .ok (.invokevirtual 47, 3) := by decide +kernel
theorem dX0_doOne_22 : decode cX0_doOne 22 = .ok (.goto 49, 3) := by decide +kernel
theorem dX0_doOne_25 : decode cX0_doOne 25 = .ok (.iload_n 0, 1) := by decide +kernel
theorem dX0_doOne_26 : decode cX0_doOne 26 = .ok (.iconst 1, 1) := by decide +kernel
theorem dX0_doOne_27 : decode cX0_doOne 27 = .ok (.if_icmp .ne 23, 3) := by decide +kernel
theorem dX0_doOne_30 : decode cX0_doOne 30 = .ok (.aload 4, 2) := by decide +kernel
theorem dX0_doOne_32 : decode cX0_doOne 32 = .ok (.iload_n 1, 1) := by decide +kernel
theorem dX0_doOne_33 : decode cX0_doOne 33 = .ok (.iload_n 3, 1) := by decide +kernel
theorem dX0_doOne_34 : decode cX0_doOne 34 = .ok (.invokevirtual 51, 3) := by decide +kernel
theorem dX0_doOne_37 : decode cX0_doOne 37 = .ok (.ifCond .eq 13, 3) := by decide +kernel
theorem dX0_doOne_40 : decode cX0_doOne 40 = .ok (.aload 4, 2) := by decide +kernel
theorem dX0_doOne_42 : decode cX0_doOne 42 = .ok (.iload_n 1, 1) := by decide +kernel
theorem dX0_doOne_43 : decode cX0_doOne 43 = .ok (.iload_n 3, 1) := by decide +kernel
theorem dX0_doOne_44 : decode cX0_doOne 44 = .ok (.invokevirtual 54, 3) := by decide +kernel
theorem dX0_doOne_47 : decode cX0_doOne 47 = .ok (.goto 24, 3) := by decide +kernel
theorem dX0_doOne_50 : decode cX0_doOne 50 = .ok (.iload_n 0, 1) := by decide +kernel
theorem dX0_doOne_51 : decode cX0_doOne 51 = .ok (.iconst 2, 1) := by decide +kernel
theorem dX0_doOne_52 : decode cX0_doOne 52 = .ok (.if_icmp .ne 19, 3) := by decide +kernel
theorem dX0_doOne_55 : decode cX0_doOne 55 = .ok (.aload 4, 2) := by decide +kernel
theorem dX0_doOne_57 : decode cX0_doOne 57 = .ok (.iload_n 3, 1) := by decide +kernel
theorem dX0_doOne_58 : decode cX0_doOne 58 = .ok (.invokevirtual 58, 3) := by decide +kernel
theorem dX0_doOne_61 : decode cX0_doOne 61 = .ok (.ifCond .eq 10, 3) := by decide +kernel
theorem dX0_doOne_64 : decode cX0_doOne 64 = .ok (.aload 4, 2) := by decide +kernel
theorem dX0_doOne_66 : decode cX0_doOne 66 = .ok (.iload_n 3, 1) := by decide +kernel
theorem dX0_doOne_67 : decode cX0_doOne 67 = .ok (.iconst 0, 1) := by decide +kernel
theorem dX0_doOne_68 : decode cX0_doOne 68 = .ok (.invokevirtual 62, 3) := by decide +kernel
theorem dX0_doOne_71 : decode cX0_doOne 71 = .ok (.return_, 1) := by decide +kernel
theorem dX1_init_0 : decode cX1_init 0 = .ok (.aload_n 0, 1) := by decide +kernel
theorem dX1_init_1 : decode cX1_init 1 = .ok (.invokespecial 3, 3) := by decide +kernel
theorem dX1_init_4 : decode cX1_init 4 = .ok (.aload_n 0, 1) := by decide +kernel
theorem dX1_init_5 : decode cX1_init 5 = .ok (.iconst 4, 1) := by decide +kernel
theorem dX1_init_6 : decode cX1_init 6 = .ok (.newarray .int, 2) := by decide +kernel
theorem dX1_init_8 : decode cX1_init 8 = .ok (.putfield 9, 3) := by decide +kernel
theorem dX1_init_11 : decode cX1_init 11 = .ok (.aload_n 0, 1) := by decide +kernel
theorem dX1_init_12 : decode cX1_init 12 = .ok (.iconst 4, 1) := by decide +kernel
theorem dX1_init_13 : decode cX1_init 13 = .ok (.newarray .int, 2) := by decide +kernel
theorem dX1_init_15 : decode cX1_init 15 = .ok (.putfield 15, 3) := by decide +kernel
theorem dX1_init_18 : decode cX1_init 18 = .ok (.aload_n 0, 1) := by decide +kernel
theorem dX1_init_19 : decode cX1_init 19 = .ok (.iconst 4, 1) := by decide +kernel
theorem dX1_init_20 : decode cX1_init 20 = .ok (.newarray .int, 2) := by decide +kernel
theorem dX1_init_22 : decode cX1_init 22 = .ok (.putfield 18, 3) := by decide +kernel
theorem dX1_init_25 : decode cX1_init 25 = .ok (.aload_n 0, 1) := by decide +kernel
theorem dX1_init_26 : decode cX1_init 26 = .ok (.iconst 4, 1) := by decide +kernel
theorem dX1_init_27 : decode cX1_init 27 = .ok (.newarray .int, 2) := by decide +kernel
theorem dX1_init_29 : decode cX1_init 29 = .ok (.putfield 21, 3) := by decide +kernel
theorem dX1_init_32 : decode cX1_init 32 = .ok (.aload_n 0, 1) := by decide +kernel
theorem dX1_init_33 : decode cX1_init 33 = .ok (.iconst 4, 1) := by decide +kernel
theorem dX1_init_34 : decode cX1_init 34 = .ok (.newarray .int, 2) := by decide +kernel
theorem dX1_init_36 : decode cX1_init 36 = .ok (.putfield 24, 3) := by decide +kernel
theorem dX1_init_39 : decode cX1_init 39 = .ok (.aload_n 0, 1) := by decide +kernel
theorem dX1_init_40 : decode cX1_init 40 = .ok (.bipush 101, 2) := by decide +kernel
theorem dX1_init_42 : decode cX1_init 42 = .ok (.newarray .int, 2) := by decide +kernel
theorem dX1_init_44 : decode cX1_init 44 = .ok (.putfield 27, 3) := by decide +kernel
theorem dX1_init_47 : decode cX1_init 47 = .ok (.return_, 1) := by decide +kernel
theorem dX1_clear_0 : decode cX1_clear 0 = .ok (.aload_n 0, 1) := by decide +kernel
theorem dX1_clear_1 : decode cX1_clear 1 = .ok (.iconst 0, 1) := by decide +kernel
theorem dX1_clear_2 : decode cX1_clear 2 = .ok (.putfield 30, 3) := by decide +kernel
theorem dX1_clear_5 : decode cX1_clear 5 = .ok (.aload_n 0, 1) := by decide +kernel
theorem dX1_clear_6 : decode cX1_clear 6 = .ok (.iconst 0, 1) := by decide +kernel
theorem dX1_clear_7 : decode cX1_clear 7 = .ok (.putfield 34, 3) := by decide +kernel
theorem dX1_clear_10 : decode cX1_clear 10 = .ok (.return_, 1) := by decide +kernel
theorem dX1_addFlow_0 : decode cX1_addFlow 0 = .ok (.aload_n 0, 1) := by decide +kernel
theorem dX1_addFlow_1 : decode cX1_addFlow 1 = .ok (.getfield 30, 3) := by decide +kernel
theorem dX1_addFlow_4 : decode cX1_addFlow 4 = .ok (.ifCond .lt 17, 3) := by decide +kernel
theorem dX1_addFlow_7 : decode cX1_addFlow 7 = .ok (.aload_n 0, 1) := by decide +kernel
theorem dX1_addFlow_8 : decode cX1_addFlow 8 = .ok (.getfield 30, 3) := by decide +kernel
theorem dX1_addFlow_11 : decode cX1_addFlow 11 = .ok (.iconst 4, 1) := by decide +kernel
theorem dX1_addFlow_12 : decode cX1_addFlow 12 = .ok (.if_icmp .ge 9, 3) := by decide +kernel
theorem dX1_addFlow_15 : decode cX1_addFlow 15 = .ok (.iload_n 2, 1) := by decide +kernel
theorem dX1_addFlow_16 : decode cX1_addFlow 16 = .ok (.bipush 60, 2) := by decide +kernel
theorem dX1_addFlow_18 : decode cX1_addFlow 18 = .ok (.if_icmp .le 5, 3) := by decide +kernel
theorem dX1_addFlow_21 : decode cX1_addFlow 21 = .ok (.iconst 0, 1) := by decide +kernel
theorem dX1_addFlow_22 : decode cX1_addFlow 22 = .ok (.ireturn, 1) := by decide +kernel
theorem dX1_addFlow_23 : decode cX1_addFlow 23 = .ok (.aload_n 0, 1) := by decide +kernel
theorem dX1_addFlow_24 : decode cX1_addFlow 24 = .ok (.getfield 9, 3) := by decide +kernel
theorem dX1_addFlow_27 : decode cX1_addFlow 27 = .ok (.aload_n 0, 1) := by decide +kernel
theorem dX1_addFlow_28 : decode cX1_addFlow 28 = .ok (.getfield 30, 3) := by decide +kernel
theorem dX1_addFlow_31 : decode cX1_addFlow 31 = .ok (.iload_n 1, 1) := by decide +kernel
theorem dX1_addFlow_32 : decode cX1_addFlow 32 = .ok (.iastore, 1) := by decide +kernel
theorem dX1_addFlow_33 : decode cX1_addFlow 33 = .ok (.aload_n 0, 1) := by decide +kernel
theorem dX1_addFlow_34 : decode cX1_addFlow 34 = .ok (.getfield 15, 3) := by decide +kernel
theorem dX1_addFlow_37 : decode cX1_addFlow 37 = .ok (.aload_n 0, 1) := by decide +kernel
theorem dX1_addFlow_38 : decode cX1_addFlow 38 = .ok (.getfield 30, 3) := by decide +kernel
theorem dX1_addFlow_41 : decode cX1_addFlow 41 = .ok (.iload_n 2, 1) := by decide +kernel
theorem dX1_addFlow_42 : decode cX1_addFlow 42 = .ok (.iastore, 1) := by decide +kernel
theorem dX1_addFlow_43 : decode cX1_addFlow 43 = .ok (.aload_n 0, 1) := by decide +kernel
theorem dX1_addFlow_44 : decode cX1_addFlow 44 = .ok (.dup, 1) := by decide +kernel
theorem dX1_addFlow_45 : decode cX1_addFlow 45 = .ok (.getfield 30, 3) := by decide +kernel
theorem dX1_addFlow_48 : decode cX1_addFlow 48 = .ok (.iconst 1, 1) := by decide +kernel
theorem dX1_addFlow_49 : decode cX1_addFlow 49 = .ok (.iadd, 1) := by decide +kernel
theorem dX1_addFlow_50 : decode cX1_addFlow 50 = .ok (.putfield 30, 3) := by decide +kernel
theorem dX1_addFlow_53 : decode cX1_addFlow 53 = .ok (.iconst 1, 1) := by decide +kernel
theorem dX1_addFlow_54 : decode cX1_addFlow 54 = .ok (.ireturn, 1) := by decide +kernel
theorem dX1_addRain_0 : decode cX1_addRain 0 = .ok (.aload_n 0, 1) := by decide +kernel
theorem dX1_addRain_1 : decode cX1_addRain 1 = .ok (.getfield 34, 3) := by decide +kernel
theorem dX1_addRain_4 : decode cX1_addRain 4 = .ok (.ifCond .lt 22, 3) := by decide +kernel
theorem dX1_addRain_7 : decode cX1_addRain 7 = .ok (.aload_n 0, 1) := by decide +kernel
theorem dX1_addRain_8 : decode cX1_addRain 8 = .ok (.getfield 34, 3) := by decide +kernel
theorem dX1_addRain_11 : decode cX1_addRain 11 = .ok (.iconst 4, 1) := by decide +kernel
theorem dX1_addRain_12 : decode cX1_addRain 12 = .ok (.if_icmp .ge 14, 3) := by decide +kernel
theorem dX1_addRain_15 : decode cX1_addRain 15 = .ok (.iload_n 1, 1) := by decide +kernel
theorem dX1_addRain_16 : decode cX1_addRain 16 = .ok (.iload_n 2, 1) := by decide +kernel
theorem dX1_addRain_17 : decode cX1_addRain 17 = .ok (.if_icmp .gt 9, 3) := by decide +kernel
theorem dX1_addRain_20 : decode cX1_addRain 20 = .ok (.iload_n 3, 1) := by decide +kernel
theorem dX1_addRain_21 : decode cX1_addRain 21 = .ok (.bipush 30, 2) := by decide +kernel
theorem dX1_addRain_23 : decode cX1_addRain 23 = .ok (.if_icmp .le 5, 3) := by decide +kernel
theorem dX1_addRain_26 : decode cX1_addRain 26 = .ok (.iconst 0, 1) := by decide +kernel
theorem dX1_addRain_27 : decode cX1_addRain 27 = .ok (.ireturn, 1) := by decide +kernel
theorem dX1_addRain_28 : decode cX1_addRain 28 = .ok (.aload_n 0, 1) := by decide +kernel
theorem dX1_addRain_29 : decode cX1_addRain 29 = .ok (.getfield 18, 3) := by decide +kernel
theorem dX1_addRain_32 : decode cX1_addRain 32 = .ok (.aload_n 0, 1) := by decide +kernel
theorem dX1_addRain_33 : decode cX1_addRain 33 = .ok (.getfield 34, 3) := by decide +kernel
theorem dX1_addRain_36 : decode cX1_addRain 36 = .ok (.iload_n 1, 1) := by decide +kernel
theorem dX1_addRain_37 : decode cX1_addRain 37 = .ok (.iastore, 1) := by decide +kernel
theorem dX1_addRain_38 : decode cX1_addRain 38 = .ok (.aload_n 0, 1) := by decide +kernel
theorem dX1_addRain_39 : decode cX1_addRain 39 = .ok (.getfield 21, 3) := by decide +kernel
theorem dX1_addRain_42 : decode cX1_addRain 42 = .ok (.aload_n 0, 1) := by decide +kernel
theorem dX1_addRain_43 : decode cX1_addRain 43 = .ok (.getfield 34, 3) := by decide +kernel
theorem dX1_addRain_46 : decode cX1_addRain 46 = .ok (.iload_n 2, 1) := by decide +kernel
theorem dX1_addRain_47 : decode cX1_addRain 47 = .ok (.iastore, 1) := by decide +kernel
theorem dX1_addRain_48 : decode cX1_addRain 48 = .ok (.aload_n 0, 1) := by decide +kernel
theorem dX1_addRain_49 : decode cX1_addRain 49 = .ok (.getfield 24, 3) := by decide +kernel
theorem dX1_addRain_52 : decode cX1_addRain 52 = .ok (.aload_n 0, 1) := by decide +kernel
theorem dX1_addRain_53 : decode cX1_addRain 53 = .ok (.getfield 34, 3) := by decide +kernel
theorem dX1_addRain_56 : decode cX1_addRain 56 = .ok (.iload_n 3, 1) := by decide +kernel
theorem dX1_addRain_57 : decode cX1_addRain 57 = .ok (.iastore, 1) := by decide +kernel
theorem dX1_addRain_58 : decode cX1_addRain 58 = .ok (.aload_n 0, 1) := by decide +kernel
theorem dX1_addRain_59 : decode cX1_addRain 59 = .ok (.dup, 1) := by decide +kernel
theorem dX1_addRain_60 : decode cX1_addRain 60 = .ok (.getfield 34, 3) := by decide +kernel
theorem dX1_addRain_63 : decode cX1_addRain 63 = .ok (.iconst 1, 1) := by decide +kernel
theorem dX1_addRain_64 : decode cX1_addRain 64 = .ok (.iadd, 1) := by decide +kernel
theorem dX1_addRain_65 : decode cX1_addRain 65 = .ok (.putfield 34, 3) := by decide +kernel
theorem dX1_addRain_68 : decode cX1_addRain 68 = .ok (.iconst 1, 1) := by decide +kernel
theorem dX1_addRain_69 : decode cX1_addRain 69 = .ok (.ireturn, 1) := by decide +kernel
theorem dX1_settle_0 : decode cX1_settle 0 = .ok (.iconst 0, 1) := by decide +kernel
theorem dX1_settle_1 : decode cX1_settle 1 = .ok (.istore_n 1, 1) := by decide +kernel
theorem dX1_settle_2 : decode cX1_settle 2 = .ok (.iload_n 1, 1) := by decide +kernel
theorem dX1_settle_3 : decode cX1_settle 3 = .ok (.bipush 100, 2) := by decide +kernel
theorem dX1_settle_5 : decode cX1_settle 5 = .ok (.if_icmp .gt 26, 3) := by decide +kernel
theorem dX1_settle_8 : decode cX1_settle 8 = .ok (.aload_n 0, 1) := by decide +kernel
theorem dX1_settle_9 : decode cX1_settle 9 = .ok (.getfield 27, 3) := by decide +kernel
theorem dX1_settle_12 : decode cX1_settle 12 = .ok (.iload_n 1, 1) := by decide +kernel
theorem dX1_settle_13 : decode cX1_settle 13 = .ok (.aload_n 0, 1) := by decide +kernel
theorem dX1_settle_14 : decode cX1_settle 14 = .ok (.iload_n 1, 1) := by decide +kernel
theorem dX1_settle_15 : decode cX1_settle 15 = .ok (.invokevirtual 37, 3) := by decide +kernel
theorem dX1_settle_18 : decode cX1_settle 18 = .ok (.aload_n 0, 1) := by decide +kernel
theorem dX1_settle_19 : decode cX1_settle 19 = .ok (.iload_n 1, 1) := by decide +kernel
theorem dX1_settle_20 : decode cX1_settle 20 = .ok (.invokevirtual 41, 3) := by decide +kernel
theorem dX1_settle_23 : decode cX1_settle 23 = .ok (.iadd, 1) := by decide +kernel
theorem dX1_settle_24 : decode cX1_settle 24 = .ok (.iastore, 1) := by decide +kernel
theorem dX1_settle_25 : decode cX1_settle 25 = .ok (.iinc 1 1, 3) := by decide +kernel
theorem dX1_settle_28 : decode cX1_settle 28 = .ok (.goto (-26), 3) := by decide +kernel
theorem dX1_settle_31 : decode cX1_settle 31 = .ok (.return_, 1) := by decide +kernel
theorem dX1_flowIn_0 : decode cX1_flowIn 0 = .ok (.bipush (-4), 2) := by decide +kernel
theorem dX1_flowIn_2 : decode cX1_flowIn 2 = .ok (.istore_n 2, 1) := by decide +kernel
theorem dX1_flowIn_3 : decode cX1_flowIn 3 = .ok (.iconst 0, 1) := by decide +kernel
theorem dX1_flowIn_4 : decode cX1_flowIn 4 = .ok (.istore_n 3, 1) := by decide +kernel
theorem dX1_flowIn_5 : decode cX1_flowIn 5 = .ok (.iconst 0, 1) := by decide +kernel
theorem dX1_flowIn_6 : decode cX1_flowIn 6 = .ok (.istore 4, 2) := by decide +kernel
theorem dX1_flowIn_8 : decode cX1_flowIn 8 = .ok (.iload 4, 2) := by decide +kernel
theorem dX1_flowIn_10 : decode cX1_flowIn 10 = .ok (.aload_n 0, 1) := by decide +kernel
theorem dX1_flowIn_11 : decode cX1_flowIn 11 = .ok (.getfield 30, 3) := by decide +kernel
theorem dX1_flowIn_14 : decode cX1_flowIn 14 = .ok (.if_icmp .ge 53, 3) := by decide +kernel
theorem dX1_flowIn_17 : decode cX1_flowIn 17 = .ok (.iload 4, 2) := by decide +kernel
theorem dX1_flowIn_19 : decode cX1_flowIn 19 = .ok (.iconst 4, 1) := by decide +kernel
theorem dX1_flowIn_20 : decode cX1_flowIn 20 = .ok (.if_icmp .ge 47, 3) := by decide +kernel
theorem dX1_flowIn_23 : decode cX1_flowIn 23 = .ok (.aload_n 0, 1) := by decide +kernel
theorem dX1_flowIn_24 : decode cX1_flowIn 24 = .ok (.getfield 9, 3) := by decide +kernel
theorem dX1_flowIn_27 : decode cX1_flowIn 27 = .ok (.iload 4, 2) := by decide +kernel
theorem dX1_flowIn_29 : decode cX1_flowIn 29 = .ok (.iaload, 1) := by decide +kernel
theorem dX1_flowIn_30 : decode cX1_flowIn 30 = .ok (.iload_n 1, 1) := by decide +kernel
theorem dX1_flowIn_31 : decode cX1_flowIn 31 = .ok (.if_icmp .gt 30, 3) := by decide +kernel
theorem dX1_flowIn_34 : decode cX1_flowIn 34 = .ok (.aload_n 0, 1) := by decide +kernel
theorem dX1_flowIn_35 : decode cX1_flowIn 35 = .ok (.getfield 9, 3) := by decide +kernel
theorem dX1_flowIn_38 : decode cX1_flowIn 38 = .ok (.iload 4, 2) := by decide +kernel
theorem dX1_flowIn_40 : decode cX1_flowIn 40 = .ok (.iaload, 1) := by decide +kernel
theorem dX1_flowIn_41 : decode cX1_flowIn 41 = .ok (.iload_n 2, 1) := by decide +kernel
theorem dX1_flowIn_42 : decode cX1_flowIn 42 = .ok (.if_icmp .lt 19, 3) := by decide +kernel
theorem dX1_flowIn_45 : decode cX1_flowIn 45 = .ok (.aload_n 0, 1) := by decide +kernel
theorem dX1_flowIn_46 : decode cX1_flowIn 46 = .ok (.getfield 9, 3) := by decide +kernel
theorem dX1_flowIn_49 : decode cX1_flowIn 49 = .ok (.iload 4, 2) := by decide +kernel
theorem dX1_flowIn_51 : decode cX1_flowIn 51 = .ok (.iaload, 1) := by decide +kernel
theorem dX1_flowIn_52 : decode cX1_flowIn 52 = .ok (.istore_n 2, 1) := by decide +kernel
theorem dX1_flowIn_53 : decode cX1_flowIn 53 = .ok (.aload_n 0, 1) := by decide +kernel
theorem dX1_flowIn_54 : decode cX1_flowIn 54 = .ok (.getfield 15, 3) := by decide +kernel
theorem dX1_flowIn_57 : decode cX1_flowIn 57 = .ok (.iload 4, 2) := by decide +kernel
theorem dX1_flowIn_59 : decode cX1_flowIn 59 = .ok (.iaload, 1) := by decide +kernel
theorem dX1_flowIn_60 : decode cX1_flowIn 60 = .ok (.istore_n 3, 1) := by decide +kernel
theorem dX1_flowIn_61 : decode cX1_flowIn 61 = .ok (.iinc 4 1, 3) := by decide +kernel
theorem dX1_flowIn_64 : decode cX1_flowIn 64 = .ok (.goto (-56), 3) := by decide +kernel
theorem dX1_flowIn_67 : decode cX1_flowIn 67 = .ok (.iload_n 3, 1) := by decide +kernel
theorem dX1_flowIn_68 : decode cX1_flowIn 68 = .ok (.ireturn, 1) := by decide +kernel
theorem dX1_rainIn_0 : decode cX1_rainIn 0 = .ok (.iconst 0, 1) := by decide +kernel
theorem dX1_rainIn_1 : decode cX1_rainIn 1 = .ok (.istore_n 2, 1) := by decide +kernel
theorem dX1_rainIn_2 : decode cX1_rainIn 2 = .ok (.iconst 0, 1) := by decide +kernel
theorem dX1_rainIn_3 : decode cX1_rainIn 3 = .ok (.istore_n 3, 1) := by decide +kernel
theorem dX1_rainIn_4 : decode cX1_rainIn 4 = .ok (.iload_n 3, 1) := by decide +kernel
theorem dX1_rainIn_5 : decode cX1_rainIn 5 = .ok (.aload_n 0, 1) := by decide +kernel
theorem dX1_rainIn_6 : decode cX1_rainIn 6 = .ok (.getfield 34, 3) := by decide +kernel
theorem dX1_rainIn_9 : decode cX1_rainIn 9 = .ok (.if_icmp .ge 43, 3) := by decide +kernel
theorem dX1_rainIn_12 : decode cX1_rainIn 12 = .ok (.iload_n 3, 1) := by decide +kernel
theorem dX1_rainIn_13 : decode cX1_rainIn 13 = .ok (.iconst 4, 1) := by decide +kernel
theorem dX1_rainIn_14 : decode cX1_rainIn 14 = .ok (.if_icmp .ge 38, 3) := by decide +kernel
theorem dX1_rainIn_17 : decode cX1_rainIn 17 = .ok (.aload_n 0, 1) := by decide +kernel
theorem dX1_rainIn_18 : decode cX1_rainIn 18 = .ok (.getfield 18, 3) := by decide +kernel
theorem dX1_rainIn_21 : decode cX1_rainIn 21 = .ok (.iload_n 3, 1) := by decide +kernel
theorem dX1_rainIn_22 : decode cX1_rainIn 22 = .ok (.iaload, 1) := by decide +kernel
theorem dX1_rainIn_23 : decode cX1_rainIn 23 = .ok (.iload_n 1, 1) := by decide +kernel
theorem dX1_rainIn_24 : decode cX1_rainIn 24 = .ok (.if_icmp .gt 22, 3) := by decide +kernel
theorem dX1_rainIn_27 : decode cX1_rainIn 27 = .ok (.iload_n 1, 1) := by decide +kernel
theorem dX1_rainIn_28 : decode cX1_rainIn 28 = .ok (.aload_n 0, 1) := by decide +kernel
theorem dX1_rainIn_29 : decode cX1_rainIn 29 = .ok (.getfield 21, 3) := by decide +kernel
theorem dX1_rainIn_32 : decode cX1_rainIn 32 = .ok (.iload_n 3, 1) := by decide +kernel
theorem dX1_rainIn_33 : decode cX1_rainIn 33 = .ok (.iaload, 1) := by decide +kernel
theorem dX1_rainIn_34 : decode cX1_rainIn 34 = .ok (.if_icmp .gt 12, 3) := by decide +kernel
theorem dX1_rainIn_37 : decode cX1_rainIn 37 = .ok (.iload_n 2, 1) := by decide +kernel
theorem dX1_rainIn_38 : decode cX1_rainIn 38 = .ok (.aload_n 0, 1) := by decide +kernel
theorem dX1_rainIn_39 : decode cX1_rainIn 39 = .ok (.getfield 24, 3) := by decide +kernel
theorem dX1_rainIn_42 : decode cX1_rainIn 42 = .ok (.iload_n 3, 1) := by decide +kernel
theorem dX1_rainIn_43 : decode cX1_rainIn 43 = .ok (.iaload, 1) := by decide +kernel
theorem dX1_rainIn_44 : decode cX1_rainIn 44 = .ok (.iadd, 1) := by decide +kernel
theorem dX1_rainIn_45 : decode cX1_rainIn 45 = .ok (.istore_n 2, 1) := by decide +kernel
theorem dX1_rainIn_46 : decode cX1_rainIn 46 = .ok (.iinc 3 1, 3) := by decide +kernel
theorem dX1_rainIn_49 : decode cX1_rainIn 49 = .ok (.goto (-45), 3) := by decide +kernel
theorem dX1_rainIn_52 : decode cX1_rainIn 52 = .ok (.iload_n 2, 1) := by decide +kernel
theorem dX1_rainIn_53 : decode cX1_rainIn 53 = .ok (.ireturn, 1) := by decide +kernel
theorem dX1_comesIn_0 : decode cX1_comesIn 0 = .ok (.iload_n 1, 1) := by decide +kernel
theorem dX1_comesIn_1 : decode cX1_comesIn 1 = .ok (.ifCond .ge 7, 3) := by decide +kernel
theorem dX1_comesIn_4 : decode cX1_comesIn 4 = .ok (.iconst 0, 1) := by decide +kernel
theorem dX1_comesIn_5 : decode cX1_comesIn 5 = .ok (.goto 14, 3) := by decide +kernel
theorem dX1_comesIn_8 : decode cX1_comesIn 8 = .ok (.aload_n 0, 1) := by decide +kernel
theorem dX1_comesIn_9 : decode cX1_comesIn 9 = .ok (.getfield 27, 3) := by decide +kernel
theorem dX1_comesIn_12 : decode cX1_comesIn 12 = .ok (.iload_n 1, 1) := by decide +kernel
theorem dX1_comesIn_13 : decode cX1_comesIn 13 = .ok (.bipush 100, 2) := by decide +kernel
theorem dX1_comesIn_15 : decode cX1_comesIn 15 = .ok (.invokestatic 44, 3) := by decide +kernel
theorem dX1_comesIn_18 : decode cX1_comesIn 18 = .ok (.iaload, 1) := by decide +kernel
theorem dX1_comesIn_19 : decode cX1_comesIn 19 = .ok (.ireturn, 1) := by decide +kernel
theorem dX2_init_0 : decode cX2_init 0 = .ok (.aload_n 0, 1) := by decide +kernel
theorem dX2_init_1 : decode cX2_init 1 = .ok (.invokespecial 3, 3) := by decide +kernel
theorem dX2_init_4 : decode cX2_init 4 = .ok (.aload_n 0, 1) := by decide +kernel
theorem dX2_init_5 : decode cX2_init 5 = .ok (.iconst 4, 1) := by decide +kernel
theorem dX2_init_6 : decode cX2_init 6 = .ok (.iconst 4, 1) := by decide +kernel
theorem dX2_init_7 : decode cX2_init 7 = .ok (.multianewarray 9 2, 4) := by decide +kernel
theorem dX2_init_11 : decode cX2_init 11 = .ok (.putfield 11, 3) := by decide +kernel
theorem dX2_init_14 : decode cX2_init 14 = .ok (.aload_n 0, 1) := by decide +kernel
theorem dX2_init_15 : decode cX2_init 15 = .ok (.iconst 5, 1) := by decide +kernel
theorem dX2_init_16 : decode cX2_init 16 = .ok (.newarray .int, 2) := by decide +kernel
theorem dX2_init_18 : decode cX2_init 18 = .ok (.putfield 16, 3) := by decide +kernel
theorem dX2_init_21 : decode cX2_init 21 = .ok (.aload_n 0, 1) := by decide +kernel
theorem dX2_init_22 : decode cX2_init 22 = .ok (.iconst 5, 1) := by decide +kernel
theorem dX2_init_23 : decode cX2_init 23 = .ok (.newarray .int, 2) := by decide +kernel
theorem dX2_init_25 : decode cX2_init 25 = .ok (.putfield 20, 3) := by decide +kernel
theorem dX2_init_28 : decode cX2_init 28 = .ok (.aload_n 0, 1) := by decide +kernel
theorem dX2_init_29 : decode cX2_init 29 = .ok (.iconst 4, 1) := by decide +kernel
theorem dX2_init_30 : decode cX2_init 30 = .ok (.newarray .int, 2) := by decide +kernel
theorem dX2_init_32 : decode cX2_init 32 = .ok (.putfield 23, 3) := by decide +kernel
theorem dX2_init_35 : decode cX2_init 35 = .ok (.return_, 1) := by decide +kernel
theorem dX2_clear_0 : decode cX2_clear 0 = .ok (.aload_n 0, 1) := by decide +kernel
theorem dX2_clear_1 : decode cX2_clear 1 = .ok (.iconst 0, 1) := by decide +kernel
theorem dX2_clear_2 : decode cX2_clear 2 = .ok (.putfield 26, 3) := by decide +kernel
theorem dX2_clear_5 : decode cX2_clear 5 = .ok (.aload_n 0, 1) := by decide +kernel
theorem dX2_clear_6 : decode cX2_clear 6 = .ok (.iconst 0, 1) := by decide +kernel
theorem dX2_clear_7 : decode cX2_clear 7 = .ok (.putfield 30, 3) := by decide +kernel
theorem dX2_clear_10 : decode cX2_clear 10 = .ok (.return_, 1) := by decide +kernel
theorem dX2_addChild_0 : decode cX2_addChild 0 = .ok (.aload_n 0, 1) := by decide +kernel
theorem dX2_addChild_1 : decode cX2_addChild 1 = .ok (.getfield 26, 3) := by decide +kernel
theorem dX2_addChild_4 : decode cX2_addChild 4 = .ok (.ifCond .lt 11, 3) := by decide +kernel
theorem dX2_addChild_7 : decode cX2_addChild 7 = .ok (.aload_n 0, 1) := by decide +kernel
theorem dX2_addChild_8 : decode cX2_addChild 8 = .ok (.getfield 26, 3) := by decide +kernel
theorem dX2_addChild_11 : decode cX2_addChild 11 = .ok (.iconst 4, 1) := by decide +kernel
theorem dX2_addChild_12 : decode cX2_addChild 12 = .ok (.if_icmp .lt 5, 3) := by decide +kernel
theorem dX2_addChild_15 : decode cX2_addChild 15 = .ok (.iconst 0, 1) := by decide +kernel
theorem dX2_addChild_16 : decode cX2_addChild 16 = .ok (.ireturn, 1) := by decide +kernel
theorem dX2_addChild_17 : decode cX2_addChild 17 = .ok (.iconst 0, 1) := by decide +kernel
theorem dX2_addChild_18 : decode cX2_addChild 18 = .ok (.istore_n 2, 1) := by decide +kernel
theorem dX2_addChild_19 : decode cX2_addChild 19 = .ok (.iload_n 2, 1) := by decide +kernel
theorem dX2_addChild_20 : decode cX2_addChild 20 = .ok (.iconst 4, 1) := by decide +kernel
theorem dX2_addChild_21 : decode cX2_addChild 21 = .ok (.if_icmp .ge 37, 3) := by decide +kernel
theorem dX2_addChild_24 : decode cX2_addChild 24 = .ok (.aload_n 1, 1) := by decide +kernel
theorem dX2_addChild_25 : decode cX2_addChild 25 = .ok (.iload_n 2, 1) := by decide +kernel
theorem dX2_addChild_26 : decode cX2_addChild 26 = .ok (.invokevirtual 33, 3) := by decide +kernel
theorem dX2_addChild_29 : decode cX2_addChild 29 = .ok (.bipush 9, 2) := by decide +kernel
theorem dX2_addChild_31 : decode cX2_addChild 31 = .ok (.if_icmp .le 5, 3) := by decide +kernel
theorem dX2_addChild_34 : decode cX2_addChild 34 = .ok (.iconst 0, 1) := by decide +kernel
theorem dX2_addChild_35 : decode cX2_addChild 35 = .ok (.ireturn, 1) := by decide +kernel
theorem dX2_addChild_36 : decode cX2_addChild 36 = .ok (.aload_n 0, 1) := by decide +kernel
theorem dX2_addChild_37 : decode cX2_addChild 37 = .ok (.getfield 11, 3) := by decide +kernel
theorem dX2_addChild_40 : decode cX2_addChild 40 = .ok (.aload_n 0, 1) := by decide +kernel
theorem dX2_addChild_41 : decode cX2_addChild 41 = .ok (.getfield 26, 3) := by decide +kernel
theorem dX2_addChild_44 : decode cX2_addChild 44 = .ok (.aaload, 1) := by decide +kernel
theorem dX2_addChild_45 : decode cX2_addChild 45 = .ok (.iload_n 2, 1) := by decide +kernel
theorem dX2_addChild_46 : decode cX2_addChild 46 = .ok (.aload_n 1, 1) := by decide +kernel
theorem dX2_addChild_47 : decode cX2_addChild 47 = .ok (.iload_n 2, 1) := by decide +kernel
theorem dX2_addChild_48 : decode cX2_addChild 48 = .ok (.invokevirtual 33, 3) := by decide +kernel
theorem dX2_addChild_51 : decode cX2_addChild 51 = .ok (.iastore, 1) := by decide +kernel
theorem dX2_addChild_52 : decode cX2_addChild 52 = .ok (.iinc 2 1, 3) := by decide +kernel
theorem dX2_addChild_55 : decode cX2_addChild 55 = .ok (.goto (-36), 3) := by decide +kernel
theorem dX2_addChild_58 : decode cX2_addChild 58 = .ok (.aload_n 0, 1) := by decide +kernel
theorem dX2_addChild_59 : decode cX2_addChild 59 = .ok (.dup, 1) := by decide +kernel
theorem dX2_addChild_60 : decode cX2_addChild 60 = .ok (.getfield 26, 3) := by decide +kernel
theorem dX2_addChild_63 : decode cX2_addChild 63 = .ok (.iconst 1, 1) := by decide +kernel
theorem dX2_addChild_64 : decode cX2_addChild 64 = .ok (.iadd, 1) := by decide +kernel
theorem dX2_addChild_65 : decode cX2_addChild 65 = .ok (.putfield 26, 3) := by decide +kernel
theorem dX2_addChild_68 : decode cX2_addChild 68 = .ok (.iconst 1, 1) := by decide +kernel
theorem dX2_addChild_69 : decode cX2_addChild 69 = .ok (.ireturn, 1) := by decide +kernel
theorem dX2_addJob_0 : decode cX2_addJob 0 = .ok (.aload_n 0, 1) := by decide +kernel
theorem dX2_addJob_1 : decode cX2_addJob 1 = .ok (.getfield 30, 3) := by decide +kernel
theorem dX2_addJob_4 : decode cX2_addJob 4 = .ok (.ifCond .lt 28, 3) := by decide +kernel
theorem dX2_addJob_7 : decode cX2_addJob 7 = .ok (.aload_n 0, 1) := by decide +kernel
theorem dX2_addJob_8 : decode cX2_addJob 8 = .ok (.getfield 30, 3) := by decide +kernel
theorem dX2_addJob_11 : decode cX2_addJob 11 = .ok (.iconst 5, 1) := by decide +kernel
theorem dX2_addJob_12 : decode cX2_addJob 12 = .ok (.if_icmp .ge 20, 3) := by decide +kernel
theorem dX2_addJob_15 : decode cX2_addJob 15 = .ok (.iload_n 1, 1) := by decide +kernel
theorem dX2_addJob_16 : decode cX2_addJob 16 = .ok (.invokestatic 39, 3) := by decide +kernel
theorem dX2_addJob_19 : decode cX2_addJob 19 = .ok (.ifCond .eq 13, 3) := by decide +kernel
theorem dX2_addJob_22 : decode cX2_addJob 22 = .ok (.iload_n 2, 1) := by decide +kernel
theorem dX2_addJob_23 : decode cX2_addJob 23 = .ok (.iconst 1, 1) := by decide +kernel
theorem dX2_addJob_24 : decode cX2_addJob 24 = .ok (.bipush 30, 2) := by decide +kernel
theorem dX2_addJob_26 : decode cX2_addJob 26 = .ok (.invokestatic 43, 3) := by decide +kernel
theorem dX2_addJob_29 : decode cX2_addJob 29 = .ok (.ifCond .ne 5, 3) := by decide +kernel
theorem dX2_addJob_32 : decode cX2_addJob 32 = .ok (.iconst 0, 1) := by decide +kernel
theorem dX2_addJob_33 : decode cX2_addJob 33 = .ok (.ireturn, 1) := by decide +kernel
theorem dX2_addJob_34 : decode cX2_addJob 34 = .ok (.aload_n 0, 1) := by decide +kernel
theorem dX2_addJob_35 : decode cX2_addJob 35 = .ok (.getfield 16, 3) := by decide +kernel
theorem dX2_addJob_38 : decode cX2_addJob 38 = .ok (.aload_n 0, 1) := by decide +kernel
theorem dX2_addJob_39 : decode cX2_addJob 39 = .ok (.getfield 30, 3) := by decide +kernel
theorem dX2_addJob_42 : decode cX2_addJob 42 = .ok (.iload_n 1, 1) := by decide +kernel
theorem dX2_addJob_43 : decode cX2_addJob 43 = .ok (.iastore, 1) := by decide +kernel
theorem dX2_addJob_44 : decode cX2_addJob 44 = .ok (.aload_n 0, 1) := by decide +kernel
theorem dX2_addJob_45 : decode cX2_addJob 45 = .ok (.getfield 20, 3) := by decide +kernel
theorem dX2_addJob_48 : decode cX2_addJob 48 = .ok (.aload_n 0, 1) := by decide +kernel
theorem dX2_addJob_49 : decode cX2_addJob 49 = .ok (.getfield 30, 3) := by decide +kernel
theorem dX2_addJob_52 : decode cX2_addJob 52 = .ok (.iload_n 2, 1) := by decide +kernel
theorem dX2_addJob_53 : decode cX2_addJob 53 = .ok (.iastore, 1) := by decide +kernel
theorem dX2_addJob_54 : decode cX2_addJob 54 = .ok (.aload_n 0, 1) := by decide +kernel
theorem dX2_addJob_55 : decode cX2_addJob 55 = .ok (.dup, 1) := by decide +kernel
theorem dX2_addJob_56 : decode cX2_addJob 56 = .ok (.getfield 30, 3) := by decide +kernel
theorem dX2_addJob_59 : decode cX2_addJob 59 = .ok (.iconst 1, 1) := by decide +kernel
theorem dX2_addJob_60 : decode cX2_addJob 60 = .ok (.iadd, 1) := by decide +kernel
theorem dX2_addJob_61 : decode cX2_addJob 61 = .ok (.putfield 30, 3) := by decide +kernel
theorem dX2_addJob_64 : decode cX2_addJob 64 = .ok (.iconst 1, 1) := by decide +kernel
theorem dX2_addJob_65 : decode cX2_addJob 65 = .ok (.ireturn, 1) := by decide +kernel
theorem dX2_childCount_0 : decode cX2_childCount 0 = .ok (.aload_n 0, 1) := by decide +kernel
theorem dX2_childCount_1 : decode cX2_childCount 1 = .ok (.getfield 26, 3) := by decide +kernel
theorem dX2_childCount_4 : decode cX2_childCount 4 = .ok (.ireturn, 1) := by decide +kernel
theorem dX2_jobCount_0 : decode cX2_jobCount 0 = .ok (.aload_n 0, 1) := by decide +kernel
theorem dX2_jobCount_1 : decode cX2_jobCount 1 = .ok (.getfield 30, 3) := by decide +kernel
theorem dX2_jobCount_4 : decode cX2_jobCount 4 = .ok (.ireturn, 1) := by decide +kernel
theorem dX2_quickestWay_0 : decode cX2_quickestWay 0 = .ok (.bipush (-4), 2) := by decide +kernel
theorem dX2_quickestWay_2 : decode cX2_quickestWay 2 = .ok (.istore_n 1, 1) := by decide +kernel
theorem dX2_quickestWay_3 : decode cX2_quickestWay 3 = .ok (.iconst 0, 1) := by decide +kernel
theorem dX2_quickestWay_4 : decode cX2_quickestWay 4 = .ok (.istore_n 2, 1) := by decide +kernel
theorem dX2_quickestWay_5 : decode cX2_quickestWay 5 = .ok (.aload_n 0, 1) := by decide +kernel
theorem dX2_quickestWay_6 : decode cX2_quickestWay 6 = .ok (.invokevirtual 47, 3) := by decide +kernel
theorem dX2_quickestWay_9 : decode cX2_quickestWay 9 = .ok (.istore_n 3, 1) := by decide +kernel
theorem dX2_quickestWay_10 : decode cX2_quickestWay 10 = .ok (.iconst 0, 1) := by decide +kernel
theorem dX2_quickestWay_11 : decode cX2_quickestWay 11 = .ok (.istore 4, 2) := by decide +kernel
theorem dX2_quickestWay_13 : decode cX2_quickestWay 13 = .ok (.iload 4, 2) := by decide +kernel
theorem dX2_quickestWay_15 : decode cX2_quickestWay 15 = .ok (.iload_n 3, 1) := by decide +kernel
theorem dX2_quickestWay_16 : decode cX2_quickestWay 16 = .ok (.if_icmp .ge 42, 3) := by decide +kernel
theorem dX2_quickestWay_19 : decode cX2_quickestWay 19 = .ok (.aload_n 0, 1) := by decide +kernel
theorem dX2_quickestWay_20 : decode cX2_quickestWay 20 = .ok (.iload 4, 2) := by decide +kernel
theorem dX2_quickestWay_22 : decode cX2_quickestWay 22 = .ok (.invokevirtual 51, 3) := by decide +kernel
theorem dX2_quickestWay_25 : decode cX2_quickestWay 25 = .ok (.istore 5, 2) := by decide +kernel
theorem dX2_quickestWay_27 : decode cX2_quickestWay 27 = .ok (.iload 5, 2) := by decide +kernel
theorem dX2_quickestWay_29 : decode cX2_quickestWay 29 = .ok (.bipush (-4), 2) := by decide +kernel
theorem dX2_quickestWay_31 : decode cX2_quickestWay 31 = .ok (.if_icmp .eq 21, 3) := by decide +kernel
theorem dX2_quickestWay_34 : decode cX2_quickestWay 34 = .ok (.iload_n 1, 1) := by decide +kernel
theorem dX2_quickestWay_35 : decode cX2_quickestWay 35 = .ok (.bipush (-4), 2) := by decide +kernel
theorem dX2_quickestWay_37 : decode cX2_quickestWay 37 = .ok (.if_icmp .eq 9, 3) := by decide +kernel
theorem dX2_quickestWay_40 : decode cX2_quickestWay 40 = .ok (.iload 5, 2) := by decide +kernel
theorem dX2_quickestWay_42 : decode cX2_quickestWay 42 = .ok (.iload_n 2, 1) := by decide +kernel
theorem dX2_quickestWay_43 : decode cX2_quickestWay 43 = .ok (.if_icmp .ge 9, 3) := by decide +kernel
theorem dX2_quickestWay_46 : decode cX2_quickestWay 46 = .ok (.iload 4, 2) := by decide +kernel
theorem dX2_quickestWay_48 : decode cX2_quickestWay 48 = .ok (.istore_n 1, 1) := by decide +kernel
theorem dX2_quickestWay_49 : decode cX2_quickestWay 49 = .ok (.iload 5, 2) := by decide +kernel
theorem dX2_quickestWay_51 : decode cX2_quickestWay 51 = .ok (.istore_n 2, 1) := by decide +kernel
theorem dX2_quickestWay_52 : decode cX2_quickestWay 52 = .ok (.iinc 4 1, 3) := by decide +kernel
theorem dX2_quickestWay_55 : decode cX2_quickestWay 55 = .ok (.goto (-42), 3) := by decide +kernel
theorem dX2_quickestWay_58 : decode cX2_quickestWay 58 = .ok (.iload_n 1, 1) := by decide +kernel
theorem dX2_quickestWay_59 : decode cX2_quickestWay 59 = .ok (.ireturn, 1) := by decide +kernel
theorem dX2_wayCount_0 : decode cX2_wayCount 0 = .ok (.iconst 1, 1) := by decide +kernel
theorem dX2_wayCount_1 : decode cX2_wayCount 1 = .ok (.istore_n 1, 1) := by decide +kernel
theorem dX2_wayCount_2 : decode cX2_wayCount 2 = .ok (.iconst 0, 1) := by decide +kernel
theorem dX2_wayCount_3 : decode cX2_wayCount 3 = .ok (.istore_n 2, 1) := by decide +kernel
theorem dX2_wayCount_4 : decode cX2_wayCount 4 = .ok (.iload_n 2, 1) := by decide +kernel
theorem dX2_wayCount_5 : decode cX2_wayCount 5 = .ok (.aload_n 0, 1) := by decide +kernel
theorem dX2_wayCount_6 : decode cX2_wayCount 6 = .ok (.getfield 30, 3) := by decide +kernel
theorem dX2_wayCount_9 : decode cX2_wayCount 9 = .ok (.if_icmp .ge 16, 3) := by decide +kernel
theorem dX2_wayCount_12 : decode cX2_wayCount 12 = .ok (.iload_n 1, 1) := by decide +kernel
theorem dX2_wayCount_13 : decode cX2_wayCount 13 = .ok (.aload_n 0, 1) := by decide +kernel
theorem dX2_wayCount_14 : decode cX2_wayCount 14 = .ok (.getfield 26, 3) := by decide +kernel
theorem dX2_wayCount_17 : decode cX2_wayCount 17 = .ok (.imul, 1) := by decide +kernel
theorem dX2_wayCount_18 : decode cX2_wayCount 18 = .ok (.istore_n 1, 1) := by decide +kernel
theorem dX2_wayCount_19 : decode cX2_wayCount 19 = .ok (.iinc 2 1, 3) := by decide +kernel
theorem dX2_wayCount_22 : decode cX2_wayCount 22 = .ok (.goto (-18), 3) := by decide +kernel
theorem dX2_wayCount_25 : decode cX2_wayCount 25 = .ok (.iload_n 1, 1) := by decide +kernel
theorem dX2_wayCount_26 : decode cX2_wayCount 26 = .ok (.ireturn, 1) := by decide +kernel
theorem dX2_whoDoes_0 : decode cX2_whoDoes 0 = .ok (.aload_n 0, 1) := by decide +kernel
theorem dX2_whoDoes_1 : decode cX2_whoDoes 1 = .ok (.getfield 26, 3) := by decide +kernel
theorem dX2_whoDoes_4 : decode cX2_whoDoes 4 = .ok (.iconst 1, 1) := by decide +kernel
theorem dX2_whoDoes_5 : decode cX2_whoDoes 5 = .ok (.if_icmp .ge 6, 3) := by decide +kernel
theorem dX2_whoDoes_8 : decode cX2_whoDoes 8 = .ok (.bipush (-4), 2) := by decide +kernel
theorem dX2_whoDoes_10 : decode cX2_whoDoes 10 = .ok (.ireturn, 1) := by decide +kernel
theorem dX2_whoDoes_11 : decode cX2_whoDoes 11 = .ok (.iload_n 2, 1) := by decide +kernel
theorem dX2_whoDoes_12 : decode cX2_whoDoes 12 = .ok (.istore_n 3, 1) := by decide +kernel
theorem dX2_whoDoes_13 : decode cX2_whoDoes 13 = .ok (.aload_n 0, 1) := by decide +kernel
theorem dX2_whoDoes_14 : decode cX2_whoDoes 14 = .ok (.getfield 30, 3) := by decide +kernel
theorem dX2_whoDoes_17 : decode cX2_whoDoes 17 = .ok (.iconst 1, 1) := by decide +kernel
theorem dX2_whoDoes_18 : decode cX2_whoDoes 18 = .ok (.isub, 1) := by decide +kernel
theorem dX2_whoDoes_19 : decode cX2_whoDoes 19 = .ok (.istore 4, 2) := by decide +kernel
theorem dX2_whoDoes_21 : decode cX2_whoDoes 21 = .ok (.iload 4, 2) := by decide +kernel
theorem dX2_whoDoes_23 : decode cX2_whoDoes 23 = .ok (.iload_n 1, 1) := by decide +kernel
theorem dX2_whoDoes_24 : decode cX2_whoDoes 24 = .ok (.if_icmp .le 16, 3) := by decide +kernel
theorem dX2_whoDoes_27 : decode cX2_whoDoes 27 = .ok (.iload_n 3, 1) := by decide +kernel
theorem dX2_whoDoes_28 : decode cX2_whoDoes 28 = .ok (.aload_n 0, 1) := by decide +kernel
theorem dX2_whoDoes_29 : decode cX2_whoDoes 29 = .ok (.getfield 26, 3) := by decide +kernel
theorem dX2_whoDoes_32 : decode cX2_whoDoes 32 = .ok (.idiv, 1) := by decide +kernel
theorem dX2_whoDoes_33 : decode cX2_whoDoes 33 = .ok (.istore_n 3, 1) := by decide +kernel
theorem dX2_whoDoes_34 : decode cX2_whoDoes 34 = .ok (.iinc 4 (-1), 3) := by decide +kernel
theorem dX2_whoDoes_37 : decode cX2_whoDoes 37 = .ok (.goto (-16), 3) := by decide +kernel
theorem dX2_whoDoes_40 : decode cX2_whoDoes 40 = .ok (.iload_n 3, 1) := by decide +kernel
theorem dX2_whoDoes_41 : decode cX2_whoDoes 41 = .ok (.aload_n 0, 1) := by decide +kernel
theorem dX2_whoDoes_42 : decode cX2_whoDoes 42 = .ok (.getfield 26, 3) := by decide +kernel
theorem dX2_whoDoes_45 : decode cX2_whoDoes 45 = .ok (.irem, 1) := by decide +kernel
theorem dX2_whoDoes_46 : decode cX2_whoDoes 46 = .ok (.ireturn, 1) := by decide +kernel
theorem dX2_minutesBy_0 : decode cX2_minutesBy 0 = .ok (.iconst 0, 1) := by decide +kernel
theorem dX2_minutesBy_1 : decode cX2_minutesBy 1 = .ok (.istore_n 2, 1) := by decide +kernel
theorem dX2_minutesBy_2 : decode cX2_minutesBy 2 = .ok (.iconst 0, 1) := by decide +kernel
theorem dX2_minutesBy_3 : decode cX2_minutesBy 3 = .ok (.istore_n 3, 1) := by decide +kernel
theorem dX2_minutesBy_4 : decode cX2_minutesBy 4 = .ok (.iload_n 3, 1) := by decide +kernel
theorem dX2_minutesBy_5 : decode cX2_minutesBy 5 = .ok (.iconst 4, 1) := by decide +kernel
theorem dX2_minutesBy_6 : decode cX2_minutesBy 6 = .ok (.if_icmp .ge 16, 3) := by decide +kernel
theorem dX2_minutesBy_9 : decode cX2_minutesBy 9 = .ok (.aload_n 0, 1) := by decide +kernel
theorem dX2_minutesBy_10 : decode cX2_minutesBy 10 = .ok (.getfield 23, 3) := by decide +kernel
theorem dX2_minutesBy_13 : decode cX2_minutesBy 13 = .ok (.iload_n 3, 1) := by decide +kernel
theorem dX2_minutesBy_14 : decode cX2_minutesBy 14 = .ok (.iconst 0, 1) := by decide +kernel
theorem dX2_minutesBy_15 : decode cX2_minutesBy 15 = .ok (.iastore, 1) := by decide +kernel
theorem dX2_minutesBy_16 : decode cX2_minutesBy 16 = .ok (.iinc 3 1, 3) := by decide +kernel
theorem dX2_minutesBy_19 : decode cX2_minutesBy 19 = .ok (.goto (-15), 3) := by decide +kernel
theorem dX2_minutesBy_22 : decode cX2_minutesBy 22 = .ok (.iconst 0, 1) := by decide +kernel
theorem dX2_minutesBy_23 : decode cX2_minutesBy 23 = .ok (.istore_n 3, 1) := by decide +kernel
theorem dX2_minutesBy_24 : decode cX2_minutesBy 24 = .ok (.iload_n 3, 1) := by decide +kernel
theorem dX2_minutesBy_25 : decode cX2_minutesBy 25 = .ok (.aload_n 0, 1) := by decide +kernel
theorem dX2_minutesBy_26 : decode cX2_minutesBy 26 = .ok (.getfield 30, 3) := by decide +kernel
theorem dX2_minutesBy_29 : decode cX2_minutesBy 29 = .ok (.if_icmp .ge 71, 3) := by decide +kernel
theorem dX2_minutesBy_32 : decode cX2_minutesBy 32 = .ok (.aload_n 0, 1) := by decide +kernel
theorem dX2_minutesBy_33 : decode cX2_minutesBy 33 = .ok (.iload_n 3, 1) := by decide +kernel
theorem dX2_minutesBy_34 : decode cX2_minutesBy 34 = .ok (.iload_n 1, 1) := by decide +kernel
theorem dX2_minutesBy_35 : decode cX2_minutesBy 35 = .ok (.invokevirtual 54, 3) := by decide +kernel
theorem dX2_minutesBy_38 : decode cX2_minutesBy 38 = .ok (.istore 4, 2) := by decide +kernel
theorem dX2_minutesBy_40 : decode cX2_minutesBy 40 = .ok (.aload_n 0, 1) := by decide +kernel
theorem dX2_minutesBy_41 : decode cX2_minutesBy 41 = .ok (.iload 4, 2) := by decide +kernel
theorem dX2_minutesBy_43 : decode cX2_minutesBy 43 = .ok (.iload_n 3, 1) := by decide +kernel
theorem dX2_minutesBy_44 : decode cX2_minutesBy 44 = .ok (.invokevirtual 58, 3) := by decide +kernel
theorem dX2_minutesBy_47 : decode cX2_minutesBy 47 = .ok (.istore 5, 2) := by decide +kernel
theorem dX2_minutesBy_49 : decode cX2_minutesBy 49 = .ok (.iload 5, 2) := by decide +kernel
theorem dX2_minutesBy_51 : decode cX2_minutesBy 51 = .ok (.bipush (-4), 2) := by decide +kernel
theorem dX2_minutesBy_53 : decode cX2_minutesBy 53 = .ok (.if_icmp .eq 14, 3) := by decide +kernel
theorem dX2_minutesBy_56 : decode cX2_minutesBy 56 = .ok (.iload 4, 2) := by decide +kernel
theorem dX2_minutesBy_58 : decode cX2_minutesBy 58 = .ok (.ifCond .lt 9, 3) := by decide +kernel
theorem dX2_minutesBy_61 : decode cX2_minutesBy 61 = .ok (.iload 4, 2) := by decide +kernel
theorem dX2_minutesBy_63 : decode cX2_minutesBy 63 = .ok (.iconst 4, 1) := by decide +kernel
theorem dX2_minutesBy_64 : decode cX2_minutesBy 64 = .ok (.if_icmp .lt 6, 3) := by decide +kernel
theorem dX2_minutesBy_67 : decode cX2_minutesBy 67 = .ok (.bipush (-4), 2) := by decide +kernel
theorem dX2_minutesBy_69 : decode cX2_minutesBy 69 = .ok (.ireturn, 1) := by decide +kernel
theorem dX2_minutesBy_70 : decode cX2_minutesBy 70 = .ok (.aload_n 0, 1) := by decide +kernel
theorem dX2_minutesBy_71 : decode cX2_minutesBy 71 = .ok (.getfield 23, 3) := by decide +kernel
theorem dX2_minutesBy_74 : decode cX2_minutesBy 74 = .ok (.iload 4, 2) := by decide +kernel
theorem dX2_minutesBy_76 : decode cX2_minutesBy 76 = .ok (.dup2, 1) := by decide +kernel
theorem dX2_minutesBy_77 : decode cX2_minutesBy 77 = .ok (.iaload, 1) := by decide +kernel
theorem dX2_minutesBy_78 : decode cX2_minutesBy 78 = .ok (.iload 5, 2) := by decide +kernel
theorem dX2_minutesBy_80 : decode cX2_minutesBy 80 = .ok (.iadd, 1) := by decide +kernel
theorem dX2_minutesBy_81 : decode cX2_minutesBy 81 = .ok (.iastore, 1) := by decide +kernel
theorem dX2_minutesBy_82 : decode cX2_minutesBy 82 = .ok (.iload_n 2, 1) := by decide +kernel
theorem dX2_minutesBy_83 : decode cX2_minutesBy 83 = .ok (.aload_n 0, 1) := by decide +kernel
theorem dX2_minutesBy_84 : decode cX2_minutesBy 84 = .ok (.getfield 23, 3) := by decide +kernel
theorem dX2_minutesBy_87 : decode cX2_minutesBy 87 = .ok (.iload 4, 2) := by decide +kernel
theorem dX2_minutesBy_89 : decode cX2_minutesBy 89 = .ok (.iaload, 1) := by decide +kernel
theorem dX2_minutesBy_90 : decode cX2_minutesBy 90 = .ok (.invokestatic 61, 3) := by decide +kernel
theorem dX2_minutesBy_93 : decode cX2_minutesBy 93 = .ok (.istore_n 2, 1) := by decide +kernel
theorem dX2_minutesBy_94 : decode cX2_minutesBy 94 = .ok (.iinc 3 1, 3) := by decide +kernel
theorem dX2_minutesBy_97 : decode cX2_minutesBy 97 = .ok (.goto (-73), 3) := by decide +kernel
theorem dX2_minutesBy_100 : decode cX2_minutesBy 100 = .ok (.iload_n 2, 1) := by decide +kernel
theorem dX2_minutesBy_101 : decode cX2_minutesBy 101 = .ok (.ireturn, 1) := by decide +kernel
theorem dX2_minutesFor_0 : decode cX2_minutesFor 0 = .ok (.iload_n 1, 1) := by decide +kernel
theorem dX2_minutesFor_1 : decode cX2_minutesFor 1 = .ok (.ifCond .lt 23, 3) := by decide +kernel
theorem dX2_minutesFor_4 : decode cX2_minutesFor 4 = .ok (.iload_n 1, 1) := by decide +kernel
theorem dX2_minutesFor_5 : decode cX2_minutesFor 5 = .ok (.aload_n 0, 1) := by decide +kernel
theorem dX2_minutesFor_6 : decode cX2_minutesFor 6 = .ok (.getfield 26, 3) := by decide +kernel
theorem dX2_minutesFor_9 : decode cX2_minutesFor 9 = .ok (.if_icmp .ge 15, 3) := by decide +kernel
theorem dX2_minutesFor_12 : decode cX2_minutesFor 12 = .ok (.iload_n 2, 1) := by decide +kernel
theorem dX2_minutesFor_13 : decode cX2_minutesFor 13 = .ok (.ifCond .lt 11, 3) := by decide +kernel
theorem dX2_minutesFor_16 : decode cX2_minutesFor 16 = .ok (.iload_n 2, 1) := by decide +kernel
theorem dX2_minutesFor_17 : decode cX2_minutesFor 17 = .ok (.aload_n 0, 1) := by decide +kernel
theorem dX2_minutesFor_18 : decode cX2_minutesFor 18 = .ok (.getfield 30, 3) := by decide +kernel
theorem dX2_minutesFor_21 : decode cX2_minutesFor 21 = .ok (.if_icmp .lt 6, 3) := by decide +kernel
theorem dX2_minutesFor_24 : decode cX2_minutesFor 24 = .ok (.bipush (-4), 2) := by decide +kernel
theorem dX2_minutesFor_26 : decode cX2_minutesFor 26 = .ok (.ireturn, 1) := by decide +kernel
theorem dX2_minutesFor_27 : decode cX2_minutesFor 27 = .ok (.aload_n 0, 1) := by decide +kernel
theorem dX2_minutesFor_28 : decode cX2_minutesFor 28 = .ok (.getfield 11, 3) := by decide +kernel
theorem dX2_minutesFor_31 : decode cX2_minutesFor 31 = .ok (.iload_n 1, 1) := by decide +kernel
theorem dX2_minutesFor_32 : decode cX2_minutesFor 32 = .ok (.aaload, 1) := by decide +kernel
theorem dX2_minutesFor_33 : decode cX2_minutesFor 33 = .ok (.aload_n 0, 1) := by decide +kernel
theorem dX2_minutesFor_34 : decode cX2_minutesFor 34 = .ok (.getfield 16, 3) := by decide +kernel
theorem dX2_minutesFor_37 : decode cX2_minutesFor 37 = .ok (.iload_n 2, 1) := by decide +kernel
theorem dX2_minutesFor_38 : decode cX2_minutesFor 38 = .ok (.iaload, 1) := by decide +kernel
theorem dX2_minutesFor_39 : decode cX2_minutesFor 39 = .ok (.iaload, 1) := by decide +kernel
theorem dX2_minutesFor_40 : decode cX2_minutesFor 40 = .ok (.istore_n 3, 1) := by decide +kernel
theorem dX2_minutesFor_41 : decode cX2_minutesFor 41 = .ok (.iload_n 3, 1) := by decide +kernel
theorem dX2_minutesFor_42 : decode cX2_minutesFor 42 = .ok (.iconst 1, 1) := by decide +kernel
theorem dX2_minutesFor_43 : decode cX2_minutesFor 43 = .ok (.if_icmp .ge 8, 3) := by decide +kernel
theorem dX2_minutesFor_46 : decode cX2_minutesFor 46 = .ok (.bipush (-4), 2) := by decide +kernel
theorem dX2_minutesFor_48 : decode cX2_minutesFor 48 = .ok (.goto 15, 3) := by decide +kernel
theorem dX2_minutesFor_51 : decode cX2_minutesFor 51 = .ok (.aload_n 0, 1) := by decide +kernel
theorem dX2_minutesFor_52 : decode cX2_minutesFor 52 = .ok (.getfield 20, 3) := by decide +kernel
theorem dX2_minutesFor_55 : decode cX2_minutesFor 55 = .ok (.iload_n 2, 1) := by decide +kernel
theorem dX2_minutesFor_56 : decode cX2_minutesFor 56 = .ok (.iaload, 1) := by decide +kernel
theorem dX2_minutesFor_57 : decode cX2_minutesFor 57 = .ok (.iload_n 3, 1) := by decide +kernel
theorem dX2_minutesFor_58 : decode cX2_minutesFor 58 = .ok (.iadd, 1) := by decide +kernel
theorem dX2_minutesFor_59 : decode cX2_minutesFor 59 = .ok (.iconst 1, 1) := by decide +kernel
theorem dX2_minutesFor_60 : decode cX2_minutesFor 60 = .ok (.isub, 1) := by decide +kernel
theorem dX2_minutesFor_61 : decode cX2_minutesFor 61 = .ok (.iload_n 3, 1) := by decide +kernel
theorem dX2_minutesFor_62 : decode cX2_minutesFor 62 = .ok (.idiv, 1) := by decide +kernel
theorem dX2_minutesFor_63 : decode cX2_minutesFor 63 = .ok (.ireturn, 1) := by decide +kernel
theorem dX3_init_0 : decode cX3_init 0 = .ok (.aload_n 0, 1) := by decide +kernel
theorem dX3_init_1 : decode cX3_init 1 = .ok (.invokespecial 3, 3) := by decide +kernel
theorem dX3_init_4 : decode cX3_init 4 = .ok (.aload_n 0, 1) := by decide +kernel
theorem dX3_init_5 : decode cX3_init 5 = .ok (.bipush 8, 2) := by decide +kernel
theorem dX3_init_7 : decode cX3_init 7 = .ok (.newarray .int, 2) := by decide +kernel
theorem dX3_init_9 : decode cX3_init 9 = .ok (.putfield 9, 3) := by decide +kernel
theorem dX3_init_12 : decode cX3_init 12 = .ok (.aload_n 0, 1) := by decide +kernel
theorem dX3_init_13 : decode cX3_init 13 = .ok (.bipush 8, 2) := by decide +kernel
theorem dX3_init_15 : decode cX3_init 15 = .ok (.newarray .int, 2) := by decide +kernel
theorem dX3_init_17 : decode cX3_init 17 = .ok (.putfield 15, 3) := by decide +kernel
theorem dX3_init_20 : decode cX3_init 20 = .ok (.aload_n 0, 1) := by decide +kernel
theorem dX3_init_21 : decode cX3_init 21 = .ok (.bipush 8, 2) := by decide +kernel
theorem dX3_init_23 : decode cX3_init 23 = .ok (.newarray .int, 2) := by decide +kernel
theorem dX3_init_25 : decode cX3_init 25 = .ok (.putfield 18, 3) := by decide +kernel
theorem dX3_init_28 : decode cX3_init 28 = .ok (.aload_n 0, 1) := by decide +kernel
theorem dX3_init_29 : decode cX3_init 29 = .ok (.aload_n 1, 1) := by decide +kernel
theorem dX3_init_30 : decode cX3_init 30 = .ok (.putfield 21, 3) := by decide +kernel
theorem dX3_init_33 : decode cX3_init 33 = .ok (.return_, 1) := by decide +kernel
theorem dX3_startAnew_0 : decode cX3_startAnew 0 = .ok (.iconst 0, 1) := by decide +kernel
theorem dX3_startAnew_1 : decode cX3_startAnew 1 = .ok (.istore_n 1, 1) := by decide +kernel
theorem dX3_startAnew_2 : decode cX3_startAnew 2 = .ok (.iload_n 1, 1) := by decide +kernel
theorem dX3_startAnew_3 : decode cX3_startAnew 3 = .ok (.bipush 8, 2) := by decide +kernel
theorem dX3_startAnew_5 : decode cX3_startAnew 5 = .ok (.if_icmp .ge 44, 3) := by decide +kernel
theorem dX3_startAnew_8 : decode cX3_startAnew 8 = .ok (.aload_n 0, 1) := by decide +kernel
theorem dX3_startAnew_9 : decode cX3_startAnew 9 = .ok (.getfield 9, 3) := by decide +kernel
theorem dX3_startAnew_12 : decode cX3_startAnew 12 = .ok (.iload_n 1, 1) := by decide +kernel
theorem dX3_startAnew_13 : decode cX3_startAnew 13 = .ok (.aload_n 0, 1) := by decide +kernel
theorem dX3_startAnew_14 : decode cX3_startAnew 14 = .ok (.getfield 21, 3) := by decide +kernel
theorem dX3_startAnew_17 : decode cX3_startAnew 17 = .ok (.iload_n 1, 1) := by decide +kernel
theorem dX3_startAnew_18 : decode cX3_startAnew 18 = .ok (.invokevirtual 25, 3) := by decide +kernel
theorem dX3_startAnew_21 : decode cX3_startAnew 21 = .ok (.iastore, 1) := by decide +kernel
theorem dX3_startAnew_22 : decode cX3_startAnew 22 = .ok (.aload_n 0, 1) := by decide +kernel
theorem dX3_startAnew_23 : decode cX3_startAnew 23 = .ok (.getfield 15, 3) := by decide +kernel
theorem dX3_startAnew_26 : decode cX3_startAnew 26 = .ok (.iload_n 1, 1) := by decide +kernel
theorem dX3_startAnew_27 : decode cX3_startAnew 27 = .ok (.aload_n 0, 1) := by decide +kernel
theorem dX3_startAnew_28 : decode cX3_startAnew 28 = .ok (.getfield 21, 3) := by decide +kernel
theorem dX3_startAnew_31 : decode cX3_startAnew 31 = .ok (.iload_n 1, 1) := by decide +kernel
theorem dX3_startAnew_32 : decode cX3_startAnew 32 = .ok (.invokevirtual 31, 3) := by decide +kernel
theorem dX3_startAnew_35 : decode cX3_startAnew 35 = .ok (.iastore, 1) := by decide +kernel
theorem dX3_startAnew_36 : decode cX3_startAnew 36 = .ok (.aload_n 0, 1) := by decide +kernel
theorem dX3_startAnew_37 : decode cX3_startAnew 37 = .ok (.getfield 18, 3) := by decide +kernel
theorem dX3_startAnew_40 : decode cX3_startAnew 40 = .ok (.iload_n 1, 1) := by decide +kernel
theorem dX3_startAnew_41 : decode cX3_startAnew 41 = .ok (.iconst 0, 1) := by decide +kernel
theorem dX3_startAnew_42 : decode cX3_startAnew 42 = .ok (.iastore, 1) := by decide +kernel
theorem dX3_startAnew_43 : decode cX3_startAnew 43 = .ok (.iinc 1 1, 3) := by decide +kernel
theorem dX3_startAnew_46 : decode cX3_startAnew 46 = .ok (.goto (-44), 3) := by decide +kernel
theorem dX3_startAnew_49 : decode cX3_startAnew 49 = .ok (.aload_n 0, 1) := by decide +kernel
theorem dX3_startAnew_50 : decode cX3_startAnew 50 = .ok (.iconst 0, 1) := by decide +kernel
theorem dX3_startAnew_51 : decode cX3_startAnew 51 = .ok (.putfield 34, 3) := by decide +kernel
theorem dX3_startAnew_54 : decode cX3_startAnew 54 = .ok (.aload_n 0, 1) := by decide +kernel
theorem dX3_startAnew_55 : decode cX3_startAnew 55 = .ok (.iconst 0, 1) := by decide +kernel
theorem dX3_startAnew_56 : decode cX3_startAnew 56 = .ok (.putfield 38, 3) := by decide +kernel
theorem dX3_startAnew_59 : decode cX3_startAnew 59 = .ok (.aload_n 0, 1) := by decide +kernel
theorem dX3_startAnew_60 : decode cX3_startAnew 60 = .ok (.iconst 0, 1) := by decide +kernel
theorem dX3_startAnew_61 : decode cX3_startAnew 61 = .ok (.putfield 41, 3) := by decide +kernel
theorem dX3_startAnew_64 : decode cX3_startAnew 64 = .ok (.aload_n 0, 1) := by decide +kernel
theorem dX3_startAnew_65 : decode cX3_startAnew 65 = .ok (.iconst 0, 1) := by decide +kernel
theorem dX3_startAnew_66 : decode cX3_startAnew 66 = .ok (.putfield 44, 3) := by decide +kernel
theorem dX3_startAnew_69 : decode cX3_startAnew 69 = .ok (.aload_n 0, 1) := by decide +kernel
theorem dX3_startAnew_70 : decode cX3_startAnew 70 = .ok (.invokevirtual 47, 3) := by decide +kernel
theorem dX3_startAnew_73 : decode cX3_startAnew 73 = .ok (.return_, 1) := by decide +kernel
theorem dX3_copyFrom_0 : decode cX3_copyFrom 0 = .ok (.iconst 0, 1) := by decide +kernel
theorem dX3_copyFrom_1 : decode cX3_copyFrom 1 = .ok (.istore_n 2, 1) := by decide +kernel
theorem dX3_copyFrom_2 : decode cX3_copyFrom 2 = .ok (.iload_n 2, 1) := by decide +kernel
theorem dX3_copyFrom_3 : decode cX3_copyFrom 3 = .ok (.bipush 8, 2) := by decide +kernel
theorem dX3_copyFrom_5 : decode cX3_copyFrom 5 = .ok (.if_icmp .ge 45, 3) := by decide +kernel
theorem dX3_copyFrom_8 : decode cX3_copyFrom 8 = .ok (.aload_n 0, 1) := by decide +kernel
theorem dX3_copyFrom_9 : decode cX3_copyFrom 9 = .ok (.getfield 9, 3) := by decide +kernel
theorem dX3_copyFrom_12 : decode cX3_copyFrom 12 = .ok (.iload_n 2, 1) := by decide +kernel
theorem dX3_copyFrom_13 : decode cX3_copyFrom 13 = .ok (.aload_n 1, 1) := by decide +kernel
theorem dX3_copyFrom_14 : decode cX3_copyFrom 14 = .ok (.getfield 9, 3) := by decide +kernel
theorem dX3_copyFrom_17 : decode cX3_copyFrom 17 = .ok (.iload_n 2, 1) := by decide +kernel
theorem dX3_copyFrom_18 : decode cX3_copyFrom 18 = .ok (.iaload, 1) := by decide +kernel
theorem dX3_copyFrom_19 : decode cX3_copyFrom 19 = .ok (.iastore, 1) := by decide +kernel
theorem dX3_copyFrom_20 : decode cX3_copyFrom 20 = .ok (.aload_n 0, 1) := by decide +kernel
theorem dX3_copyFrom_21 : decode cX3_copyFrom 21 = .ok (.getfield 15, 3) := by decide +kernel
theorem dX3_copyFrom_24 : decode cX3_copyFrom 24 = .ok (.iload_n 2, 1) := by decide +kernel
theorem dX3_copyFrom_25 : decode cX3_copyFrom 25 = .ok (.aload_n 1, 1) := by decide +kernel
theorem dX3_copyFrom_26 : decode cX3_copyFrom 26 = .ok (.getfield 15, 3) := by decide +kernel
theorem dX3_copyFrom_29 : decode cX3_copyFrom 29 = .ok (.iload_n 2, 1) := by decide +kernel
theorem dX3_copyFrom_30 : decode cX3_copyFrom 30 = .ok (.iaload, 1) := by decide +kernel
theorem dX3_copyFrom_31 : decode cX3_copyFrom 31 = .ok (.iastore, 1) := by decide +kernel
theorem dX3_copyFrom_32 : decode cX3_copyFrom 32 = .ok (.aload_n 0, 1) := by decide +kernel
theorem dX3_copyFrom_33 : decode cX3_copyFrom 33 = .ok (.getfield 18, 3) := by decide +kernel
theorem dX3_copyFrom_36 : decode cX3_copyFrom 36 = .ok (.iload_n 2, 1) := by decide +kernel
theorem dX3_copyFrom_37 : decode cX3_copyFrom 37 = .ok (.aload_n 1, 1) := by decide +kernel
theorem dX3_copyFrom_38 : decode cX3_copyFrom 38 = .ok (.getfield 18, 3) := by decide +kernel
theorem dX3_copyFrom_41 : decode cX3_copyFrom 41 = .ok (.iload_n 2, 1) := by decide +kernel
theorem dX3_copyFrom_42 : decode cX3_copyFrom 42 = .ok (.iaload, 1) := by decide +kernel
theorem dX3_copyFrom_43 : decode cX3_copyFrom 43 = .ok (.iastore, 1) := by decide +kernel
theorem dX3_copyFrom_44 : decode cX3_copyFrom 44 = .ok (.iinc 2 1, 3) := by decide +kernel
theorem dX3_copyFrom_47 : decode cX3_copyFrom 47 = .ok (.goto (-45), 3) := by decide +kernel
theorem dX3_copyFrom_50 : decode cX3_copyFrom 50 = .ok (.aload_n 0, 1) := by decide +kernel
theorem dX3_copyFrom_51 : decode cX3_copyFrom 51 = .ok (.aload_n 1, 1) := by decide +kernel
theorem dX3_copyFrom_52 : decode cX3_copyFrom 52 = .ok (.getfield 34, 3) := by decide +kernel
theorem dX3_copyFrom_55 : decode cX3_copyFrom 55 = .ok (.putfield 34, 3) := by decide +kernel
theorem dX3_copyFrom_58 : decode cX3_copyFrom 58 = .ok (.aload_n 0, 1) := by decide +kernel
theorem dX3_copyFrom_59 : decode cX3_copyFrom 59 = .ok (.aload_n 1, 1) := by decide +kernel
theorem dX3_copyFrom_60 : decode cX3_copyFrom 60 = .ok (.getfield 38, 3) := by decide +kernel
theorem dX3_copyFrom_63 : decode cX3_copyFrom 63 = .ok (.putfield 38, 3) := by decide +kernel
theorem dX3_copyFrom_66 : decode cX3_copyFrom 66 = .ok (.aload_n 0, 1) := by decide +kernel
theorem dX3_copyFrom_67 : decode cX3_copyFrom 67 = .ok (.aload_n 1, 1) := by decide +kernel
theorem dX3_copyFrom_68 : decode cX3_copyFrom 68 = .ok (.getfield 41, 3) := by decide +kernel
theorem dX3_copyFrom_71 : decode cX3_copyFrom 71 = .ok (.putfield 41, 3) := by decide +kernel
theorem dX3_copyFrom_74 : decode cX3_copyFrom 74 = .ok (.aload_n 0, 1) := by decide +kernel
theorem dX3_copyFrom_75 : decode cX3_copyFrom 75 = .ok (.aload_n 1, 1) := by decide +kernel
theorem dX3_copyFrom_76 : decode cX3_copyFrom 76 = .ok (.getfield 44, 3) := by decide +kernel
theorem dX3_copyFrom_79 : decode cX3_copyFrom 79 = .ok (.putfield 44, 3) := by decide +kernel
theorem dX3_copyFrom_82 : decode cX3_copyFrom 82 = .ok (.aload_n 0, 1) := by decide +kernel
theorem dX3_copyFrom_83 : decode cX3_copyFrom 83 = .ok (.invokevirtual 47, 3) := by decide +kernel
theorem dX3_copyFrom_86 : decode cX3_copyFrom 86 = .ok (.return_, 1) := by decide +kernel
theorem dX3_survey_0 : decode cX3_survey 0 = .ok (.aload_n 0, 1) := by decide +kernel
theorem dX3_survey_1 : decode cX3_survey 1 = .ok (.aload_n 0, 1) := by decide +kernel
theorem dX3_survey_2 : decode cX3_survey 2 = .ok (.getfield 21, 3) := by decide +kernel
theorem dX3_survey_5 : decode cX3_survey 5 = .ok (.invokevirtual 50, 3) := by decide +kernel
theorem dX3_survey_8 : decode cX3_survey 8 = .ok (.aload_n 0, 1) := by decide +kernel
theorem dX3_survey_9 : decode cX3_survey 9 = .ok (.getfield 21, 3) := by decide +kernel
theorem dX3_survey_12 : decode cX3_survey 12 = .ok (.invokevirtual 54, 3) := by decide +kernel
theorem dX3_survey_15 : decode cX3_survey 15 = .ok (.invokestatic 57, 3) := by decide +kernel
theorem dX3_survey_18 : decode cX3_survey 18 = .ok (.putfield 63, 3) := by decide +kernel
theorem dX3_survey_21 : decode cX3_survey 21 = .ok (.aload_n 0, 1) := by decide +kernel
theorem dX3_survey_22 : decode cX3_survey 22 = .ok (.aload_n 0, 1) := by decide +kernel
theorem dX3_survey_23 : decode cX3_survey 23 = .ok (.getfield 63, 3) := by decide +kernel
theorem dX3_survey_26 : decode cX3_survey 26 = .ok (.aload_n 0, 1) := by decide +kernel
theorem dX3_survey_27 : decode cX3_survey 27 = .ok (.getfield 21, 3) := by decide +kernel
theorem dX3_survey_30 : decode cX3_survey 30 = .ok (.invokevirtual 50, 3) := by decide +kernel
theorem dX3_survey_33 : decode cX3_survey 33 = .ok (.if_icmp .ne 8, 3) := by decide +kernel
theorem dX3_survey_36 : decode cX3_survey 36 = .ok (.bipush 8, 2) := by decide +kernel
theorem dX3_survey_38 : decode cX3_survey 38 = .ok (.goto 5, 3) := by decide +kernel
theorem dX3_survey_41 : decode cX3_survey 41 = .ok (.bipush 9, 2) := by decide +kernel
theorem dX3_survey_43 : decode cX3_survey 43 = .ok (.putfield 66, 3) := by decide +kernel
theorem dX3_survey_46 : decode cX3_survey 46 = .ok (.aload_n 0, 1) := by decide +kernel
theorem dX3_survey_47 : decode cX3_survey 47 = .ok (.iconst 0, 1) := by decide +kernel
theorem dX3_survey_48 : decode cX3_survey 48 = .ok (.putfield 69, 3) := by decide +kernel
theorem dX3_survey_51 : decode cX3_survey 51 = .ok (.aload_n 0, 1) := by decide +kernel
theorem dX3_survey_52 : decode cX3_survey 52 = .ok (.iconst 0, 1) := by decide +kernel
theorem dX3_survey_53 : decode cX3_survey 53 = .ok (.putfield 72, 3) := by decide +kernel
theorem dX3_survey_56 : decode cX3_survey 56 = .ok (.aload_n 0, 1) := by decide +kernel
theorem dX3_survey_57 : decode cX3_survey 57 = .ok (.getfield 21, 3) := by decide +kernel
theorem dX3_survey_60 : decode cX3_survey 60 = .ok (.invokevirtual 75, 3) := by decide +kernel
theorem dX3_survey_63 : decode cX3_survey 63 = .ok (.bipush 8, 2) := by decide +kernel
theorem dX3_survey_65 : decode cX3_survey 65 = .ok (.invokestatic 57, 3) := by decide +kernel
theorem dX3_survey_68 : decode cX3_survey 68 = .ok (.iconst 1, 1) := by decide +kernel
theorem dX3_survey_69 : decode cX3_survey 69 = .ok (.isub, 1) := by decide +kernel
theorem dX3_survey_70 : decode cX3_survey 70 = .ok (.istore_n 1, 1) := by decide +kernel
theorem dX3_survey_71 : decode cX3_survey 71 = .ok (.iload_n 1, 1) := by decide +kernel
theorem dX3_survey_72 : decode cX3_survey 72 = .ok (.ifCond .lt 94, 3) := by decide +kernel
theorem dX3_survey_75 : decode cX3_survey 75 = .ok (.aload_n 0, 1) := by decide +kernel
theorem dX3_survey_76 : decode cX3_survey 76 = .ok (.getfield 9, 3) := by decide +kernel
theorem dX3_survey_79 : decode cX3_survey 79 = .ok (.iload_n 1, 1) := by decide +kernel
theorem dX3_survey_80 : decode cX3_survey 80 = .ok (.iaload, 1) := by decide +kernel
theorem dX3_survey_81 : decode cX3_survey 81 = .ok (.aload_n 0, 1) := by decide +kernel
theorem dX3_survey_82 : decode cX3_survey 82 = .ok (.getfield 63, 3) := by decide +kernel
theorem dX3_survey_85 : decode cX3_survey 85 = .ok (.if_icmp .gt 18, 3) := by decide +kernel
theorem dX3_survey_88 : decode cX3_survey 88 = .ok (.aload_n 0, 1) := by decide +kernel
theorem dX3_survey_89 : decode cX3_survey 89 = .ok (.aload_n 0, 1) := by decide +kernel
theorem dX3_survey_90 : decode cX3_survey 90 = .ok (.getfield 9, 3) := by decide +kernel
theorem dX3_survey_93 : decode cX3_survey 93 = .ok (.iload_n 1, 1) := by decide +kernel
theorem dX3_survey_94 : decode cX3_survey 94 = .ok (.iaload, 1) := by decide +kernel
theorem dX3_survey_95 : decode cX3_survey 95 = .ok (.putfield 63, 3) := by decide +kernel
theorem dX3_survey_98 : decode cX3_survey 98 = .ok (.aload_n 0, 1) := by decide +kernel
theorem dX3_survey_99 : decode cX3_survey 99 = .ok (.iload_n 1, 1) := by decide +kernel
theorem dX3_survey_100 : decode cX3_survey 100 = .ok (.putfield 66, 3) := by decide +kernel
theorem dX3_survey_103 : decode cX3_survey 103 = .ok (.aload_n 0, 1) := by decide +kernel
theorem dX3_survey_104 : decode cX3_survey 104 = .ok (.getfield 9, 3) := by decide +kernel
theorem dX3_survey_107 : decode cX3_survey 107 = .ok (.iload_n 1, 1) := by decide +kernel
theorem dX3_survey_108 : decode cX3_survey 108 = .ok (.iaload, 1) := by decide +kernel
theorem dX3_survey_109 : decode cX3_survey 109 = .ok (.ifCond .le 51, 3) := by decide +kernel
theorem dX3_survey_112 : decode cX3_survey 112 = .ok (.aload_n 0, 1) := by decide +kernel
theorem dX3_survey_113 : decode cX3_survey 113 = .ok (.dup, 1) := by decide +kernel
theorem dX3_survey_114 : decode cX3_survey 114 = .ok (.getfield 69, 3) := by decide +kernel
theorem dX3_survey_117 : decode cX3_survey 117 = .ok (.aload_n 0, 1) := by decide +kernel
theorem dX3_survey_118 : decode cX3_survey 118 = .ok (.getfield 15, 3) := by decide +kernel
theorem dX3_survey_121 : decode cX3_survey 121 = .ok (.iload_n 1, 1) := by decide +kernel
theorem dX3_survey_122 : decode cX3_survey 122 = .ok (.iaload, 1) := by decide +kernel
theorem dX3_survey_123 : decode cX3_survey 123 = .ok (.iconst 1, 1) := by decide +kernel
theorem dX3_survey_124 : decode cX3_survey 124 = .ok (.if_icmp .ne 7, 3) := by decide +kernel
theorem dX3_survey_127 : decode cX3_survey 127 = .ok (.iconst 1, 1) := by decide +kernel
theorem dX3_survey_128 : decode cX3_survey 128 = .ok (.goto 4, 3) := by decide +kernel
theorem dX3_survey_131 : decode cX3_survey 131 = .ok (.iconst 0, 1) := by decide +kernel
theorem dX3_survey_132 : decode cX3_survey 132 = .ok (.iadd, 1) := by decide +kernel
theorem dX3_survey_133 : decode cX3_survey 133 = .ok (.putfield 69, 3) := by decide +kernel
theorem dX3_survey_136 : decode cX3_survey 136 = .ok (.aload_n 0, 1) := by decide +kernel
theorem dX3_survey_137 : decode cX3_survey 137 = .ok (.dup, 1) := by decide +kernel
theorem dX3_survey_138 : decode cX3_survey 138 = .ok (.getfield 72, 3) := by decide +kernel
theorem dX3_survey_141 : decode cX3_survey 141 = .ok (.aload_n 0, 1) := by decide +kernel
theorem dX3_survey_142 : decode cX3_survey 142 = .ok (.getfield 15, 3) := by decide +kernel
theorem dX3_survey_145 : decode cX3_survey 145 = .ok (.iload_n 1, 1) := by decide +kernel
theorem dX3_survey_146 : decode cX3_survey 146 = .ok (.iaload, 1) := by decide +kernel
theorem dX3_survey_147 : decode cX3_survey 147 = .ok (.iconst 3, 1) := by decide +kernel
theorem dX3_survey_148 : decode cX3_survey 148 = .ok (.if_icmp .ne 7, 3) := by decide +kernel
theorem dX3_survey_151 : decode cX3_survey 151 = .ok (.iconst 1, 1) := by decide +kernel
theorem dX3_survey_152 : decode cX3_survey 152 = .ok (.goto 4, 3) := by decide +kernel
theorem dX3_survey_155 : decode cX3_survey 155 = .ok (.iconst 0, 1) := by decide +kernel
theorem dX3_survey_156 : decode cX3_survey 156 = .ok (.iadd, 1) := by decide +kernel
theorem dX3_survey_157 : decode cX3_survey 157 = .ok (.putfield 72, 3) := by decide +kernel
theorem dX3_survey_160 : decode cX3_survey 160 = .ok (.iinc 1 (-1), 3) := by decide +kernel
theorem dX3_survey_163 : decode cX3_survey 163 = .ok (.goto (-92), 3) := by decide +kernel
theorem dX3_survey_166 : decode cX3_survey 166 = .ok (.aload_n 0, 1) := by decide +kernel
theorem dX3_survey_167 : decode cX3_survey 167 = .ok (.aload_n 0, 1) := by decide +kernel
theorem dX3_survey_168 : decode cX3_survey 168 = .ok (.getfield 21, 3) := by decide +kernel
theorem dX3_survey_171 : decode cX3_survey 171 = .ok (.aload_n 0, 1) := by decide +kernel
theorem dX3_survey_172 : decode cX3_survey 172 = .ok (.getfield 63, 3) := by decide +kernel
theorem dX3_survey_175 : decode cX3_survey 175 = .ok (.invokevirtual 78, 3) := by decide +kernel
theorem dX3_survey_178 : decode cX3_survey 178 = .ok (.putfield 81, 3) := by decide +kernel
theorem dX3_survey_181 : decode cX3_survey 181 = .ok (.return_, 1) := by decide +kernel
theorem dX3_oneMinute_0 : decode cX3_oneMinute 0 = .ok (.aload_n 0, 1) := by decide +kernel
theorem dX3_oneMinute_1 : decode cX3_oneMinute 1 = .ok (.dup, 1) := by decide +kernel
theorem dX3_oneMinute_2 : decode cX3_oneMinute 2 = .ok (.getfield 38, 3) := by decide +kernel
theorem dX3_oneMinute_5 : decode cX3_oneMinute 5 = .ok (.iconst 1, 1) := by decide +kernel
theorem dX3_oneMinute_6 : decode cX3_oneMinute 6 = .ok (.iadd, 1) := by decide +kernel
theorem dX3_oneMinute_7 : decode cX3_oneMinute 7 = .ok (.putfield 38, 3) := by decide +kernel
theorem dX3_oneMinute_10 : decode cX3_oneMinute 10 = .ok (.aload_n 0, 1) := by decide +kernel
theorem dX3_oneMinute_11 : decode cX3_oneMinute 11 = .ok (.dup, 1) := by decide +kernel
theorem dX3_oneMinute_12 : decode cX3_oneMinute 12 = .ok (.getfield 34, 3) := by decide +kernel
theorem dX3_oneMinute_15 : decode cX3_oneMinute 15 = .ok (.aload_n 0, 1) := by decide +kernel
theorem dX3_oneMinute_16 : decode cX3_oneMinute 16 = .ok (.getfield 21, 3) := by decide +kernel
theorem dX3_oneMinute_19 : decode cX3_oneMinute 19 = .ok (.invokevirtual 84, 3) := by decide +kernel
theorem dX3_oneMinute_22 : decode cX3_oneMinute 22 = .ok (.aload_n 0, 1) := by decide +kernel
theorem dX3_oneMinute_23 : decode cX3_oneMinute 23 = .ok (.getfield 38, 3) := by decide +kernel
theorem dX3_oneMinute_26 : decode cX3_oneMinute 26 = .ok (.invokevirtual 88, 3) := by decide +kernel
theorem dX3_oneMinute_29 : decode cX3_oneMinute 29 = .ok (.iload_n 1, 1) := by decide +kernel
theorem dX3_oneMinute_30 : decode cX3_oneMinute 30 = .ok (.iadd, 1) := by decide +kernel
theorem dX3_oneMinute_31 : decode cX3_oneMinute 31 = .ok (.iadd, 1) := by decide +kernel
theorem dX3_oneMinute_32 : decode cX3_oneMinute 32 = .ok (.putfield 34, 3) := by decide +kernel
theorem dX3_oneMinute_35 : decode cX3_oneMinute 35 = .ok (.aload_n 0, 1) := by decide +kernel
theorem dX3_oneMinute_36 : decode cX3_oneMinute 36 = .ok (.getfield 69, 3) := by decide +kernel
theorem dX3_oneMinute_39 : decode cX3_oneMinute 39 = .ok (.aload_n 0, 1) := by decide +kernel
theorem dX3_oneMinute_40 : decode cX3_oneMinute 40 = .ok (.getfield 72, 3) := by decide +kernel
theorem dX3_oneMinute_43 : decode cX3_oneMinute 43 = .ok (.iadd, 1) := by decide +kernel
theorem dX3_oneMinute_44 : decode cX3_oneMinute 44 = .ok (.ifCond .le 61, 3) := by decide +kernel
theorem dX3_oneMinute_47 : decode cX3_oneMinute 47 = .ok (.aload_n 0, 1) := by decide +kernel
theorem dX3_oneMinute_48 : decode cX3_oneMinute 48 = .ok (.getfield 21, 3) := by decide +kernel
theorem dX3_oneMinute_51 : decode cX3_oneMinute 51 = .ok (.aload_n 0, 1) := by decide +kernel
theorem dX3_oneMinute_52 : decode cX3_oneMinute 52 = .ok (.getfield 34, 3) := by decide +kernel
theorem dX3_oneMinute_55 : decode cX3_oneMinute 55 = .ok (.invokevirtual 93, 3) := by decide +kernel
theorem dX3_oneMinute_58 : decode cX3_oneMinute 58 = .ok (.istore_n 2, 1) := by decide +kernel
theorem dX3_oneMinute_59 : decode cX3_oneMinute 59 = .ok (.aload_n 0, 1) := by decide +kernel
theorem dX3_oneMinute_60 : decode cX3_oneMinute 60 = .ok (.getfield 34, 3) := by decide +kernel
theorem dX3_oneMinute_63 : decode cX3_oneMinute 63 = .ok (.aload_n 0, 1) := by decide +kernel
theorem dX3_oneMinute_64 : decode cX3_oneMinute 64 = .ok (.getfield 69, 3) := by decide +kernel
theorem dX3_oneMinute_67 : decode cX3_oneMinute 67 = .ok (.iload_n 2, 1) := by decide +kernel
theorem dX3_oneMinute_68 : decode cX3_oneMinute 68 = .ok (.bipush 8, 2) := by decide +kernel
theorem dX3_oneMinute_70 : decode cX3_oneMinute 70 = .ok (.idiv, 1) := by decide +kernel
theorem dX3_oneMinute_71 : decode cX3_oneMinute 71 = .ok (.imul, 1) := by decide +kernel
theorem dX3_oneMinute_72 : decode cX3_oneMinute 72 = .ok (.aload_n 0, 1) := by decide +kernel
theorem dX3_oneMinute_73 : decode cX3_oneMinute 73 = .ok (.getfield 72, 3) := by decide +kernel
theorem dX3_oneMinute_76 : decode cX3_oneMinute 76 = .ok (.iload_n 2, 1) := by decide +kernel
theorem dX3_oneMinute_77 : decode cX3_oneMinute 77 = .ok (.iconst 3, 1) := by decide +kernel
theorem dX3_oneMinute_78 : decode cX3_oneMinute 78 = .ok (.idiv, 1) := by decide +kernel
theorem dX3_oneMinute_79 : decode cX3_oneMinute 79 = .ok (.imul, 1) := by decide +kernel
theorem dX3_oneMinute_80 : decode cX3_oneMinute 80 = .ok (.iadd, 1) := by decide +kernel
theorem dX3_oneMinute_81 : decode cX3_oneMinute 81 = .ok (.invokestatic 57, 3) := by decide +kernel
theorem dX3_oneMinute_84 : decode cX3_oneMinute 84 = .ok (.istore_n 3, 1) := by decide +kernel
theorem dX3_oneMinute_85 : decode cX3_oneMinute 85 = .ok (.aload_n 0, 1) := by decide +kernel
theorem dX3_oneMinute_86 : decode cX3_oneMinute 86 = .ok (.dup, 1) := by decide +kernel
theorem dX3_oneMinute_87 : decode cX3_oneMinute 87 = .ok (.getfield 34, 3) := by decide +kernel
theorem dX3_oneMinute_90 : decode cX3_oneMinute 90 = .ok (.iload_n 3, 1) := by decide +kernel
theorem dX3_oneMinute_91 : decode cX3_oneMinute 91 = .ok (.isub, 1) := by decide +kernel
theorem dX3_oneMinute_92 : decode cX3_oneMinute 92 = .ok (.putfield 34, 3) := by decide +kernel
theorem dX3_oneMinute_95 : decode cX3_oneMinute 95 = .ok (.aload_n 0, 1) := by decide +kernel
theorem dX3_oneMinute_96 : decode cX3_oneMinute 96 = .ok (.dup, 1) := by decide +kernel
theorem dX3_oneMinute_97 : decode cX3_oneMinute 97 = .ok (.getfield 44, 3) := by decide +kernel
theorem dX3_oneMinute_100 : decode cX3_oneMinute 100 = .ok (.iload_n 3, 1) := by decide +kernel
theorem dX3_oneMinute_101 : decode cX3_oneMinute 101 = .ok (.iadd, 1) := by decide +kernel
theorem dX3_oneMinute_102 : decode cX3_oneMinute 102 = .ok (.putfield 44, 3) := by decide +kernel
theorem dX3_oneMinute_105 : decode cX3_oneMinute 105 = .ok (.aload_n 0, 1) := by decide +kernel
theorem dX3_oneMinute_106 : decode cX3_oneMinute 106 = .ok (.iconst 0, 1) := by decide +kernel
theorem dX3_oneMinute_107 : decode cX3_oneMinute 107 = .ok (.aload_n 0, 1) := by decide +kernel
theorem dX3_oneMinute_108 : decode cX3_oneMinute 108 = .ok (.getfield 34, 3) := by decide +kernel
theorem dX3_oneMinute_111 : decode cX3_oneMinute 111 = .ok (.aload_n 0, 1) := by decide +kernel
theorem dX3_oneMinute_112 : decode cX3_oneMinute 112 = .ok (.getfield 81, 3) := by decide +kernel
theorem dX3_oneMinute_115 : decode cX3_oneMinute 115 = .ok (.isub, 1) := by decide +kernel
theorem dX3_oneMinute_116 : decode cX3_oneMinute 116 = .ok (.invokestatic 96, 3) := by decide +kernel
theorem dX3_oneMinute_119 : decode cX3_oneMinute 119 = .ok (.putfield 99, 3) := by decide +kernel
theorem dX3_oneMinute_122 : decode cX3_oneMinute 122 = .ok (.aload_n 0, 1) := by decide +kernel
theorem dX3_oneMinute_123 : decode cX3_oneMinute 123 = .ok (.aload_n 0, 1) := by decide +kernel
theorem dX3_oneMinute_124 : decode cX3_oneMinute 124 = .ok (.getfield 66, 3) := by decide +kernel
theorem dX3_oneMinute_127 : decode cX3_oneMinute 127 = .ok (.putfield 102, 3) := by decide +kernel
theorem dX3_oneMinute_130 : decode cX3_oneMinute 130 = .ok (.aload_n 0, 1) := by decide +kernel
theorem dX3_oneMinute_131 : decode cX3_oneMinute 131 = .ok (.dup, 1) := by decide +kernel
theorem dX3_oneMinute_132 : decode cX3_oneMinute 132 = .ok (.getfield 34, 3) := by decide +kernel
theorem dX3_oneMinute_135 : decode cX3_oneMinute 135 = .ok (.aload_n 0, 1) := by decide +kernel
theorem dX3_oneMinute_136 : decode cX3_oneMinute 136 = .ok (.getfield 99, 3) := by decide +kernel
theorem dX3_oneMinute_139 : decode cX3_oneMinute 139 = .ok (.isub, 1) := by decide +kernel
theorem dX3_oneMinute_140 : decode cX3_oneMinute 140 = .ok (.putfield 34, 3) := by decide +kernel
theorem dX3_oneMinute_143 : decode cX3_oneMinute 143 = .ok (.aload_n 0, 1) := by decide +kernel
theorem dX3_oneMinute_144 : decode cX3_oneMinute 144 = .ok (.dup, 1) := by decide +kernel
theorem dX3_oneMinute_145 : decode cX3_oneMinute 145 = .ok (.getfield 41, 3) := by decide +kernel
theorem dX3_oneMinute_148 : decode cX3_oneMinute 148 = .ok (.aload_n 0, 1) := by decide +kernel
theorem dX3_oneMinute_149 : decode cX3_oneMinute 149 = .ok (.getfield 99, 3) := by decide +kernel
theorem dX3_oneMinute_152 : decode cX3_oneMinute 152 = .ok (.iadd, 1) := by decide +kernel
theorem dX3_oneMinute_153 : decode cX3_oneMinute 153 = .ok (.putfield 41, 3) := by decide +kernel
theorem dX3_oneMinute_156 : decode cX3_oneMinute 156 = .ok (.aload_n 0, 1) := by decide +kernel
theorem dX3_oneMinute_157 : decode cX3_oneMinute 157 = .ok (.bipush (-4), 2) := by decide +kernel
theorem dX3_oneMinute_159 : decode cX3_oneMinute 159 = .ok (.putfield 105, 3) := by decide +kernel
theorem dX3_oneMinute_162 : decode cX3_oneMinute 162 = .ok (.aload_n 0, 1) := by decide +kernel
theorem dX3_oneMinute_163 : decode cX3_oneMinute 163 = .ok (.getfield 99, 3) := by decide +kernel
theorem dX3_oneMinute_166 : decode cX3_oneMinute 166 = .ok (.ifCond .le 18, 3) := by decide +kernel
theorem dX3_oneMinute_169 : decode cX3_oneMinute 169 = .ok (.aload_n 0, 1) := by decide +kernel
theorem dX3_oneMinute_170 : decode cX3_oneMinute 170 = .ok (.aload_n 0, 1) := by decide +kernel
theorem dX3_oneMinute_171 : decode cX3_oneMinute 171 = .ok (.getfield 102, 3) := by decide +kernel
theorem dX3_oneMinute_174 : decode cX3_oneMinute 174 = .ok (.invokevirtual 108, 3) := by decide +kernel
theorem dX3_oneMinute_177 : decode cX3_oneMinute 177 = .ok (.ifCond .eq 7, 3) := by decide +kernel
theorem dX3_oneMinute_180 : decode cX3_oneMinute 180 = .ok (.aload_n 0, 1) := by decide +kernel
theorem dX3_oneMinute_181 : decode cX3_oneMinute 181 = .ok (.invokevirtual 47, 3) := by decide +kernel
theorem dX3_oneMinute_184 : decode cX3_oneMinute 184 = .ok (.return_, 1) := by decide +kernel
theorem dX3_wears_0 : decode cX3_wears 0 = .ok (.iload_n 1, 1) := by decide +kernel
theorem dX3_wears_1 : decode cX3_wears 1 = .ok (.ifCond .lt 18, 3) := by decide +kernel
theorem dX3_wears_4 : decode cX3_wears 4 = .ok (.iload_n 1, 1) := by decide +kernel
theorem dX3_wears_5 : decode cX3_wears 5 = .ok (.bipush 8, 2) := by decide +kernel
theorem dX3_wears_7 : decode cX3_wears 7 = .ok (.if_icmp .ge 12, 3) := by decide +kernel
theorem dX3_wears_10 : decode cX3_wears 10 = .ok (.aload_n 0, 1) := by decide +kernel
theorem dX3_wears_11 : decode cX3_wears 11 = .ok (.getfield 9, 3) := by decide +kernel
theorem dX3_wears_14 : decode cX3_wears 14 = .ok (.iload_n 1, 1) := by decide +kernel
theorem dX3_wears_15 : decode cX3_wears 15 = .ok (.iaload, 1) := by decide +kernel
theorem dX3_wears_16 : decode cX3_wears 16 = .ok (.ifCond .ne 5, 3) := by decide +kernel
theorem dX3_wears_19 : decode cX3_wears 19 = .ok (.iconst 0, 1) := by decide +kernel
theorem dX3_wears_20 : decode cX3_wears 20 = .ok (.ireturn, 1) := by decide +kernel
theorem dX3_wears_21 : decode cX3_wears 21 = .ok (.aload_n 0, 1) := by decide +kernel
theorem dX3_wears_22 : decode cX3_wears 22 = .ok (.getfield 15, 3) := by decide +kernel
theorem dX3_wears_25 : decode cX3_wears 25 = .ok (.iload_n 1, 1) := by decide +kernel
theorem dX3_wears_26 : decode cX3_wears 26 = .ok (.iaload, 1) := by decide +kernel
theorem dX3_wears_27 : decode cX3_wears 27 = .ok (.ifCond .ne 7, 3) := by decide +kernel
theorem dX3_wears_30 : decode cX3_wears 30 = .ok (.iconst 2, 1) := by decide +kernel
theorem dX3_wears_31 : decode cX3_wears 31 = .ok (.goto 27, 3) := by decide +kernel
theorem dX3_wears_34 : decode cX3_wears 34 = .ok (.aload_n 0, 1) := by decide +kernel
theorem dX3_wears_35 : decode cX3_wears 35 = .ok (.getfield 15, 3) := by decide +kernel
theorem dX3_wears_38 : decode cX3_wears 38 = .ok (.iload_n 1, 1) := by decide +kernel
theorem dX3_wears_39 : decode cX3_wears 39 = .ok (.iaload, 1) := by decide +kernel
theorem dX3_wears_40 : decode cX3_wears 40 = .ok (.iconst 1, 1) := by decide +kernel
theorem dX3_wears_41 : decode cX3_wears 41 = .ok (.if_icmp .ne 16, 3) := by decide +kernel
theorem dX3_wears_44 : decode cX3_wears 44 = .ok (.aload_n 0, 1) := by decide +kernel
theorem dX3_wears_45 : decode cX3_wears 45 = .ok (.getfield 38, 3) := by decide +kernel
theorem dX3_wears_48 : decode cX3_wears 48 = .ok (.iconst 2, 1) := by decide +kernel
theorem dX3_wears_49 : decode cX3_wears 49 = .ok (.irem, 1) := by decide +kernel
theorem dX3_wears_50 : decode cX3_wears 50 = .ok (.ifCond .ne 7, 3) := by decide +kernel
theorem dX3_wears_53 : decode cX3_wears 53 = .ok (.iconst 1, 1) := by decide +kernel
theorem dX3_wears_54 : decode cX3_wears 54 = .ok (.goto 4, 3) := by decide +kernel
theorem dX3_wears_57 : decode cX3_wears 57 = .ok (.iconst 0, 1) := by decide +kernel
theorem dX3_wears_58 : decode cX3_wears 58 = .ok (.istore_n 2, 1) := by decide +kernel
theorem dX3_wears_59 : decode cX3_wears 59 = .ok (.aload_n 0, 1) := by decide +kernel
theorem dX3_wears_60 : decode cX3_wears 60 = .ok (.getfield 9, 3) := by decide +kernel
theorem dX3_wears_63 : decode cX3_wears 63 = .ok (.iload_n 1, 1) := by decide +kernel
theorem dX3_wears_64 : decode cX3_wears 64 = .ok (.iconst 0, 1) := by decide +kernel
theorem dX3_wears_65 : decode cX3_wears 65 = .ok (.aload_n 0, 1) := by decide +kernel
theorem dX3_wears_66 : decode cX3_wears 66 = .ok (.getfield 9, 3) := by decide +kernel
theorem dX3_wears_69 : decode cX3_wears 69 = .ok (.iload_n 1, 1) := by decide +kernel
theorem dX3_wears_70 : decode cX3_wears 70 = .ok (.iaload, 1) := by decide +kernel
theorem dX3_wears_71 : decode cX3_wears 71 = .ok (.iload_n 2, 1) := by decide +kernel
theorem dX3_wears_72 : decode cX3_wears 72 = .ok (.isub, 1) := by decide +kernel
theorem dX3_wears_73 : decode cX3_wears 73 = .ok (.invokestatic 96, 3) := by decide +kernel
theorem dX3_wears_76 : decode cX3_wears 76 = .ok (.iastore, 1) := by decide +kernel
theorem dX3_wears_77 : decode cX3_wears 77 = .ok (.aload_n 0, 1) := by decide +kernel
theorem dX3_wears_78 : decode cX3_wears 78 = .ok (.getfield 9, 3) := by decide +kernel
theorem dX3_wears_81 : decode cX3_wears 81 = .ok (.iload_n 1, 1) := by decide +kernel
theorem dX3_wears_82 : decode cX3_wears 82 = .ok (.iaload, 1) := by decide +kernel
theorem dX3_wears_83 : decode cX3_wears 83 = .ok (.ifCond .ne 18, 3) := by decide +kernel
theorem dX3_wears_86 : decode cX3_wears 86 = .ok (.aload_n 0, 1) := by decide +kernel
theorem dX3_wears_87 : decode cX3_wears 87 = .ok (.getfield 18, 3) := by decide +kernel
theorem dX3_wears_90 : decode cX3_wears 90 = .ok (.iload_n 1, 1) := by decide +kernel
theorem dX3_wears_91 : decode cX3_wears 91 = .ok (.dup2, 1) := by decide +kernel
theorem dX3_wears_92 : decode cX3_wears 92 = .ok (.iaload, 1) := by decide +kernel
theorem dX3_wears_93 : decode cX3_wears 93 = .ok (.iconst 1, 1) := by decide +kernel
theorem dX3_wears_94 : decode cX3_wears 94 = .ok (.iadd, 1) := by decide +kernel
theorem dX3_wears_95 : decode cX3_wears 95 = .ok (.iastore, 1) := by decide +kernel
theorem dX3_wears_96 : decode cX3_wears 96 = .ok (.aload_n 0, 1) := by decide +kernel
theorem dX3_wears_97 : decode cX3_wears 97 = .ok (.iload_n 1, 1) := by decide +kernel
theorem dX3_wears_98 : decode cX3_wears 98 = .ok (.putfield 105, 3) := by decide +kernel
theorem dX3_wears_101 : decode cX3_wears 101 = .ok (.iload_n 2, 1) := by decide +kernel
theorem dX3_wears_102 : decode cX3_wears 102 = .ok (.ifCond .le 7, 3) := by decide +kernel
theorem dX3_wears_105 : decode cX3_wears 105 = .ok (.iconst 1, 1) := by decide +kernel
theorem dX3_wears_106 : decode cX3_wears 106 = .ok (.goto 4, 3) := by decide +kernel
theorem dX3_wears_109 : decode cX3_wears 109 = .ok (.iconst 0, 1) := by decide +kernel
theorem dX3_wears_110 : decode cX3_wears 110 = .ok (.ireturn, 1) := by decide +kernel
theorem dX3_letPass_0 : decode cX3_letPass 0 = .ok (.iconst 0, 1) := by decide +kernel
theorem dX3_letPass_1 : decode cX3_letPass 1 = .ok (.istore_n 3, 1) := by decide +kernel
theorem dX3_letPass_2 : decode cX3_letPass 2 = .ok (.iload_n 3, 1) := by decide +kernel
theorem dX3_letPass_3 : decode cX3_letPass 3 = .ok (.iload_n 1, 1) := by decide +kernel
theorem dX3_letPass_4 : decode cX3_letPass 4 = .ok (.if_icmp .ge 14, 3) := by decide +kernel
theorem dX3_letPass_7 : decode cX3_letPass 7 = .ok (.aload_n 0, 1) := by decide +kernel
theorem dX3_letPass_8 : decode cX3_letPass 8 = .ok (.iload_n 2, 1) := by decide +kernel
theorem dX3_letPass_9 : decode cX3_letPass 9 = .ok (.invokevirtual 112, 3) := by decide +kernel
theorem dX3_letPass_12 : decode cX3_letPass 12 = .ok (.iinc 3 1, 3) := by decide +kernel
theorem dX3_letPass_15 : decode cX3_letPass 15 = .ok (.goto (-13), 3) := by decide +kernel
theorem dX3_letPass_18 : decode cX3_letPass 18 = .ok (.return_, 1) := by decide +kernel
theorem dX3_passTillOver_0 : decode cX3_passTillOver 0 = .ok (.iconst 1, 1) := by decide +kernel
theorem dX3_passTillOver_1 : decode cX3_passTillOver 1 = .ok (.istore_n 1, 1) := by decide +kernel
theorem dX3_passTillOver_2 : decode cX3_passTillOver 2 = .ok (.iload_n 1, 1) := by decide +kernel
theorem dX3_passTillOver_3 : decode cX3_passTillOver 3 = .ok (.sipush 200, 3) := by decide +kernel
theorem dX3_passTillOver_6 : decode cX3_passTillOver 6 = .ok (.if_icmp .gt 23, 3) := by decide +kernel
theorem dX3_passTillOver_9 : decode cX3_passTillOver 9 = .ok (.aload_n 0, 1) := by decide +kernel
theorem dX3_passTillOver_10 : decode cX3_passTillOver 10 = .ok (.iconst 0, 1) := by decide +kernel
theorem dX3_passTillOver_11 : decode cX3_passTillOver 11 = .ok (.invokevirtual 112, 3) := by decide +kernel
theorem dX3_passTillOver_14 : decode cX3_passTillOver 14 = .ok (.aload_n 0, 1) := by decide +kernel
theorem dX3_passTillOver_15 : decode cX3_passTillOver 15 = .ok (.getfield 99, 3) := by decide +kernel
theorem dX3_passTillOver_18 : decode cX3_passTillOver 18 = .ok (.ifCond .le 5, 3) := by decide +kernel
theorem dX3_passTillOver_21 : decode cX3_passTillOver 21 = .ok (.iload_n 1, 1) := by decide +kernel
theorem dX3_passTillOver_22 : decode cX3_passTillOver 22 = .ok (.ireturn, 1) := by decide +kernel
theorem dX3_passTillOver_23 : decode cX3_passTillOver 23 = .ok (.iinc 1 1, 3) := by decide +kernel
theorem dX3_passTillOver_26 : decode cX3_passTillOver 26 = .ok (.goto (-24), 3) := by decide +kernel
theorem dX3_passTillOver_29 : decode cX3_passTillOver 29 = .ok (.bipush (-4), 2) := by decide +kernel
theorem dX3_passTillOver_31 : decode cX3_passTillOver 31 = .ok (.ireturn, 1) := by decide +kernel
theorem dX3_passTillBreach_0 : decode cX3_passTillBreach 0 = .ok (.iconst 1, 1) := by decide +kernel
theorem dX3_passTillBreach_1 : decode cX3_passTillBreach 1 = .ok (.istore_n 1, 1) := by decide +kernel
theorem dX3_passTillBreach_2 : decode cX3_passTillBreach 2 = .ok (.iload_n 1, 1) := by decide +kernel
theorem dX3_passTillBreach_3 : decode cX3_passTillBreach 3 = .ok (.sipush 200, 3) := by decide +kernel
theorem dX3_passTillBreach_6 : decode cX3_passTillBreach 6 = .ok (.if_icmp .gt 25, 3) := by decide +kernel
theorem dX3_passTillBreach_9 : decode cX3_passTillBreach 9 = .ok (.aload_n 0, 1) := by decide +kernel
theorem dX3_passTillBreach_10 : decode cX3_passTillBreach 10 = .ok (.iconst 0, 1) := by decide +kernel
theorem dX3_passTillBreach_11 : decode cX3_passTillBreach 11 = .ok (.invokevirtual 112, 3) := by decide +kernel
theorem dX3_passTillBreach_14 : decode cX3_passTillBreach 14 = .ok (.aload_n 0, 1) := by decide +kernel
theorem dX3_passTillBreach_15 : decode cX3_passTillBreach 15 = .ok (.getfield 105, 3) := by decide +kernel
theorem dX3_passTillBreach_18 : decode cX3_passTillBreach 18 = .ok (.bipush (-4), 2) := by decide +kernel
theorem dX3_passTillBreach_20 : decode cX3_passTillBreach 20 = .ok (.if_icmp .eq 5, 3) := by decide +kernel
theorem dX3_passTillBreach_23 : decode cX3_passTillBreach 23 = .ok (.iload_n 1, 1) := by decide +kernel
theorem dX3_passTillBreach_24 : decode cX3_passTillBreach 24 = .ok (.ireturn, 1) := by decide +kernel
theorem dX3_passTillBreach_25 : decode cX3_passTillBreach 25 = .ok (.iinc 1 1, 3) := by decide +kernel
theorem dX3_passTillBreach_28 : decode cX3_passTillBreach 28 = .ok (.goto (-26), 3) := by decide +kernel
theorem dX3_passTillBreach_31 : decode cX3_passTillBreach 31 = .ok (.bipush (-4), 2) := by decide +kernel
theorem dX3_passTillBreach_33 : decode cX3_passTillBreach 33 = .ok (.ireturn, 1) := by decide +kernel
theorem dX3_canRaise_0 : decode cX3_canRaise 0 = .ok (.aload_n 0, 1) := by decide +kernel
theorem dX3_canRaise_1 : decode cX3_canRaise 1 = .ok (.iload_n 1, 1) := by decide +kernel
theorem dX3_canRaise_2 : decode cX3_canRaise 2 = .ok (.invokevirtual 116, 3) := by decide +kernel
theorem dX3_canRaise_5 : decode cX3_canRaise 5 = .ok (.iload_n 2, 1) := by decide +kernel
theorem dX3_canRaise_6 : decode cX3_canRaise 6 = .ok (.iadd, 1) := by decide +kernel
theorem dX3_canRaise_7 : decode cX3_canRaise 7 = .ok (.bipush 40, 2) := by decide +kernel
theorem dX3_canRaise_9 : decode cX3_canRaise 9 = .ok (.if_icmp .gt 7, 3) := by decide +kernel
theorem dX3_canRaise_12 : decode cX3_canRaise 12 = .ok (.iconst 1, 1) := by decide +kernel
theorem dX3_canRaise_13 : decode cX3_canRaise 13 = .ok (.goto 4, 3) := by decide +kernel
theorem dX3_canRaise_16 : decode cX3_canRaise 16 = .ok (.iconst 0, 1) := by decide +kernel
theorem dX3_canRaise_17 : decode cX3_canRaise 17 = .ok (.ireturn, 1) := by decide +kernel
theorem dX3_canDig_0 : decode cX3_canDig 0 = .ok (.aload_n 0, 1) := by decide +kernel
theorem dX3_canDig_1 : decode cX3_canDig 1 = .ok (.iload_n 1, 1) := by decide +kernel
theorem dX3_canDig_2 : decode cX3_canDig 2 = .ok (.invokevirtual 116, 3) := by decide +kernel
theorem dX3_canDig_5 : decode cX3_canDig 5 = .ok (.iload_n 2, 1) := by decide +kernel
theorem dX3_canDig_6 : decode cX3_canDig 6 = .ok (.if_icmp .lt 7, 3) := by decide +kernel
theorem dX3_canDig_9 : decode cX3_canDig 9 = .ok (.iconst 1, 1) := by decide +kernel
theorem dX3_canDig_10 : decode cX3_canDig 10 = .ok (.goto 4, 3) := by decide +kernel
theorem dX3_canDig_13 : decode cX3_canDig 13 = .ok (.iconst 0, 1) := by decide +kernel
theorem dX3_canDig_14 : decode cX3_canDig 14 = .ok (.ireturn, 1) := by decide +kernel
theorem dX3_canPass_0 : decode cX3_canPass 0 = .ok (.aload_n 0, 1) := by decide +kernel
theorem dX3_canPass_1 : decode cX3_canPass 1 = .ok (.getfield 38, 3) := by decide +kernel
theorem dX3_canPass_4 : decode cX3_canPass 4 = .ok (.iload_n 1, 1) := by decide +kernel
theorem dX3_canPass_5 : decode cX3_canPass 5 = .ok (.iadd, 1) := by decide +kernel
theorem dX3_canPass_6 : decode cX3_canPass 6 = .ok (.sipush 999, 3) := by decide +kernel
theorem dX3_canPass_9 : decode cX3_canPass 9 = .ok (.if_icmp .gt 7, 3) := by decide +kernel
theorem dX3_canPass_12 : decode cX3_canPass 12 = .ok (.iconst 1, 1) := by decide +kernel
theorem dX3_canPass_13 : decode cX3_canPass 13 = .ok (.goto 4, 3) := by decide +kernel
theorem dX3_canPass_16 : decode cX3_canPass 16 = .ok (.iconst 0, 1) := by decide +kernel
theorem dX3_canPass_17 : decode cX3_canPass 17 = .ok (.ireturn, 1) := by decide +kernel
theorem dX3_layAt_0 : decode cX3_layAt 0 = .ok (.aload_n 0, 1) := by decide +kernel
theorem dX3_layAt_1 : decode cX3_layAt 1 = .ok (.iload_n 1, 1) := by decide +kernel
theorem dX3_layAt_2 : decode cX3_layAt 2 = .ok (.iload_n 2, 1) := by decide +kernel
theorem dX3_layAt_3 : decode cX3_layAt 3 = .ok (.aload_n 0, 1) := by decide +kernel
theorem dX3_layAt_4 : decode cX3_layAt 4 = .ok (.iload_n 1, 1) := by decide +kernel
theorem dX3_layAt_5 : decode cX3_layAt 5 = .ok (.invokevirtual 116, 3) := by decide +kernel
theorem dX3_layAt_8 : decode cX3_layAt 8 = .ok (.iload_n 3, 1) := by decide +kernel
theorem dX3_layAt_9 : decode cX3_layAt 9 = .ok (.iadd, 1) := by decide +kernel
theorem dX3_layAt_10 : decode cX3_layAt 10 = .ok (.invokevirtual 119, 3) := by decide +kernel
theorem dX3_layAt_13 : decode cX3_layAt 13 = .ok (.return_, 1) := by decide +kernel
theorem dX3_digAt_0 : decode cX3_digAt 0 = .ok (.aload_n 0, 1) := by decide +kernel
theorem dX3_digAt_1 : decode cX3_digAt 1 = .ok (.iload_n 1, 1) := by decide +kernel
theorem dX3_digAt_2 : decode cX3_digAt 2 = .ok (.aload_n 0, 1) := by decide +kernel
theorem dX3_digAt_3 : decode cX3_digAt 3 = .ok (.iload_n 1, 1) := by decide +kernel
theorem dX3_digAt_4 : decode cX3_digAt 4 = .ok (.invokevirtual 123, 3) := by decide +kernel
theorem dX3_digAt_7 : decode cX3_digAt 7 = .ok (.aload_n 0, 1) := by decide +kernel
theorem dX3_digAt_8 : decode cX3_digAt 8 = .ok (.iload_n 1, 1) := by decide +kernel
theorem dX3_digAt_9 : decode cX3_digAt 9 = .ok (.invokevirtual 116, 3) := by decide +kernel
theorem dX3_digAt_12 : decode cX3_digAt 12 = .ok (.iload_n 2, 1) := by decide +kernel
theorem dX3_digAt_13 : decode cX3_digAt 13 = .ok (.isub, 1) := by decide +kernel
theorem dX3_digAt_14 : decode cX3_digAt 14 = .ok (.invokevirtual 119, 3) := by decide +kernel
theorem dX3_digAt_17 : decode cX3_digAt 17 = .ok (.return_, 1) := by decide +kernel
theorem dX3_remake_0 : decode cX3_remake 0 = .ok (.iload_n 1, 1) := by decide +kernel
theorem dX3_remake_1 : decode cX3_remake 1 = .ok (.ifCond .lt 9, 3) := by decide +kernel
theorem dX3_remake_4 : decode cX3_remake 4 = .ok (.iload_n 1, 1) := by decide +kernel
theorem dX3_remake_5 : decode cX3_remake 5 = .ok (.bipush 8, 2) := by decide +kernel
theorem dX3_remake_7 : decode cX3_remake 7 = .ok (.if_icmp .lt 4, 3) := by decide +kernel
theorem dX3_remake_10 : decode cX3_remake 10 = .ok (.return_, 1) := by decide +kernel
theorem dX3_remake_11 : decode cX3_remake 11 = .ok (.aload_n 0, 1) := by decide +kernel
theorem dX3_remake_12 : decode cX3_remake 12 = .ok (.getfield 9, 3) := by decide +kernel
theorem dX3_remake_15 : decode cX3_remake 15 = .ok (.iload_n 1, 1) := by decide +kernel
theorem dX3_remake_16 : decode cX3_remake 16 = .ok (.iload_n 3, 1) := by decide +kernel
theorem dX3_remake_17 : decode cX3_remake 17 = .ok (.iastore, 1) := by decide +kernel
theorem dX3_remake_18 : decode cX3_remake 18 = .ok (.aload_n 0, 1) := by decide +kernel
theorem dX3_remake_19 : decode cX3_remake 19 = .ok (.getfield 15, 3) := by decide +kernel
theorem dX3_remake_22 : decode cX3_remake 22 = .ok (.iload_n 1, 1) := by decide +kernel
theorem dX3_remake_23 : decode cX3_remake 23 = .ok (.iload_n 2, 1) := by decide +kernel
theorem dX3_remake_24 : decode cX3_remake 24 = .ok (.iastore, 1) := by decide +kernel
theorem dX3_remake_25 : decode cX3_remake 25 = .ok (.aload_n 0, 1) := by decide +kernel
theorem dX3_remake_26 : decode cX3_remake 26 = .ok (.invokevirtual 47, 3) := by decide +kernel
theorem dX3_remake_29 : decode cX3_remake 29 = .ok (.return_, 1) := by decide +kernel
theorem dX3_empty_0 : decode cX3_empty 0 = .ok (.aload_n 0, 1) := by decide +kernel
theorem dX3_empty_1 : decode cX3_empty 1 = .ok (.iconst 0, 1) := by decide +kernel
theorem dX3_empty_2 : decode cX3_empty 2 = .ok (.putfield 34, 3) := by decide +kernel
theorem dX3_empty_5 : decode cX3_empty 5 = .ok (.return_, 1) := by decide +kernel
theorem dX3_heightAt_0 : decode cX3_heightAt 0 = .ok (.iload_n 1, 1) := by decide +kernel
theorem dX3_heightAt_1 : decode cX3_heightAt 1 = .ok (.ifCond .lt 18, 3) := by decide +kernel
theorem dX3_heightAt_4 : decode cX3_heightAt 4 = .ok (.iload_n 1, 1) := by decide +kernel
theorem dX3_heightAt_5 : decode cX3_heightAt 5 = .ok (.bipush 8, 2) := by decide +kernel
theorem dX3_heightAt_7 : decode cX3_heightAt 7 = .ok (.if_icmp .ge 12, 3) := by decide +kernel
theorem dX3_heightAt_10 : decode cX3_heightAt 10 = .ok (.aload_n 0, 1) := by decide +kernel
theorem dX3_heightAt_11 : decode cX3_heightAt 11 = .ok (.getfield 9, 3) := by decide +kernel
theorem dX3_heightAt_14 : decode cX3_heightAt 14 = .ok (.iload_n 1, 1) := by decide +kernel
theorem dX3_heightAt_15 : decode cX3_heightAt 15 = .ok (.iaload, 1) := by decide +kernel
theorem dX3_heightAt_16 : decode cX3_heightAt 16 = .ok (.goto 4, 3) := by decide +kernel
theorem dX3_heightAt_19 : decode cX3_heightAt 19 = .ok (.iconst 0, 1) := by decide +kernel
theorem dX3_heightAt_20 : decode cX3_heightAt 20 = .ok (.ireturn, 1) := by decide +kernel
theorem dX3_stuffAt_0 : decode cX3_stuffAt 0 = .ok (.iload_n 1, 1) := by decide +kernel
theorem dX3_stuffAt_1 : decode cX3_stuffAt 1 = .ok (.ifCond .lt 18, 3) := by decide +kernel
theorem dX3_stuffAt_4 : decode cX3_stuffAt 4 = .ok (.iload_n 1, 1) := by decide +kernel
theorem dX3_stuffAt_5 : decode cX3_stuffAt 5 = .ok (.bipush 8, 2) := by decide +kernel
theorem dX3_stuffAt_7 : decode cX3_stuffAt 7 = .ok (.if_icmp .ge 12, 3) := by decide +kernel
theorem dX3_stuffAt_10 : decode cX3_stuffAt 10 = .ok (.aload_n 0, 1) := by decide +kernel
theorem dX3_stuffAt_11 : decode cX3_stuffAt 11 = .ok (.getfield 15, 3) := by decide +kernel
theorem dX3_stuffAt_14 : decode cX3_stuffAt 14 = .ok (.iload_n 1, 1) := by decide +kernel
theorem dX3_stuffAt_15 : decode cX3_stuffAt 15 = .ok (.iaload, 1) := by decide +kernel
theorem dX3_stuffAt_16 : decode cX3_stuffAt 16 = .ok (.goto 4, 3) := by decide +kernel
theorem dX3_stuffAt_19 : decode cX3_stuffAt 19 = .ok (.iconst 0, 1) := by decide +kernel
theorem dX3_stuffAt_20 : decode cX3_stuffAt 20 = .ok (.ireturn, 1) := by decide +kernel
theorem dX3_breachesAt_0 : decode cX3_breachesAt 0 = .ok (.iload_n 1, 1) := by decide +kernel
theorem dX3_breachesAt_1 : decode cX3_breachesAt 1 = .ok (.ifCond .lt 18, 3) := by decide +kernel
theorem dX3_breachesAt_4 : decode cX3_breachesAt 4 = .ok (.iload_n 1, 1) := by decide +kernel
theorem dX3_breachesAt_5 : decode cX3_breachesAt 5 = .ok (.bipush 8, 2) := by decide +kernel
theorem dX3_breachesAt_7 : decode cX3_breachesAt 7 = .ok (.if_icmp .ge 12, 3) := by decide +kernel
theorem dX3_breachesAt_10 : decode cX3_breachesAt 10 = .ok (.aload_n 0, 1) := by decide +kernel
theorem dX3_breachesAt_11 : decode cX3_breachesAt 11 = .ok (.getfield 18, 3) := by decide +kernel
theorem dX3_breachesAt_14 : decode cX3_breachesAt 14 = .ok (.iload_n 1, 1) := by decide +kernel
theorem dX3_breachesAt_15 : decode cX3_breachesAt 15 = .ok (.iaload, 1) := by decide +kernel
theorem dX3_breachesAt_16 : decode cX3_breachesAt 16 = .ok (.goto 4, 3) := by decide +kernel
theorem dX3_breachesAt_19 : decode cX3_breachesAt 19 = .ok (.iconst 0, 1) := by decide +kernel
theorem dX3_breachesAt_20 : decode cX3_breachesAt 20 = .ok (.ireturn, 1) := by decide +kernel
theorem dX3_allBreaches_0 : decode cX3_allBreaches 0 = .ok (.iconst 0, 1) := by decide +kernel
theorem dX3_allBreaches_1 : decode cX3_allBreaches 1 = .ok (.istore_n 1, 1) := by decide +kernel
theorem dX3_allBreaches_2 : decode cX3_allBreaches 2 = .ok (.iconst 0, 1) := by decide +kernel
theorem dX3_allBreaches_3 : decode cX3_allBreaches 3 = .ok (.istore_n 2, 1) := by decide +kernel
theorem dX3_allBreaches_4 : decode cX3_allBreaches 4 = .ok (.iload_n 2, 1) := by decide +kernel
theorem dX3_allBreaches_5 : decode cX3_allBreaches 5 = .ok (.bipush 8, 2) := by decide +kernel
theorem dX3_allBreaches_7 : decode cX3_allBreaches 7 = .ok (.if_icmp .ge 18, 3) := by decide +kernel
theorem dX3_allBreaches_10 : decode cX3_allBreaches 10 = .ok (.iload_n 1, 1) := by decide +kernel
theorem dX3_allBreaches_11 : decode cX3_allBreaches 11 = .ok (.aload_n 0, 1) := by decide +kernel
theorem dX3_allBreaches_12 : decode cX3_allBreaches 12 = .ok (.getfield 18, 3) := by decide +kernel
theorem dX3_allBreaches_15 : decode cX3_allBreaches 15 = .ok (.iload_n 2, 1) := by decide +kernel
theorem dX3_allBreaches_16 : decode cX3_allBreaches 16 = .ok (.iaload, 1) := by decide +kernel
theorem dX3_allBreaches_17 : decode cX3_allBreaches 17 = .ok (.iadd, 1) := by decide +kernel
theorem dX3_allBreaches_18 : decode cX3_allBreaches 18 = .ok (.istore_n 1, 1) := by decide +kernel
theorem dX3_allBreaches_19 : decode cX3_allBreaches 19 = .ok (.iinc 2 1, 3) := by decide +kernel
theorem dX3_allBreaches_22 : decode cX3_allBreaches 22 = .ok (.goto (-18), 3) := by decide +kernel
theorem dX3_allBreaches_25 : decode cX3_allBreaches 25 = .ok (.iload_n 1, 1) := by decide +kernel
theorem dX3_allBreaches_26 : decode cX3_allBreaches 26 = .ok (.ireturn, 1) := by decide +kernel
theorem dX3_wasBreached_0 : decode cX3_wasBreached 0 = .ok (.aload_n 0, 1) := by decide +kernel
theorem dX3_wasBreached_1 : decode cX3_wasBreached 1 = .ok (.invokevirtual 126, 3) := by decide +kernel
theorem dX3_wasBreached_4 : decode cX3_wasBreached 4 = .ok (.ifCond .le 7, 3) := by decide +kernel
theorem dX3_wasBreached_7 : decode cX3_wasBreached 7 = .ok (.iconst 1, 1) := by decide +kernel
theorem dX3_wasBreached_8 : decode cX3_wasBreached 8 = .ok (.goto 4, 3) := by decide +kernel
theorem dX3_wasBreached_11 : decode cX3_wasBreached 11 = .ok (.iconst 0, 1) := by decide +kernel
theorem dX3_wasBreached_12 : decode cX3_wasBreached 12 = .ok (.ireturn, 1) := by decide +kernel
theorem dX3_level_0 : decode cX3_level 0 = .ok (.aload_n 0, 1) := by decide +kernel
theorem dX3_level_1 : decode cX3_level 1 = .ok (.getfield 21, 3) := by decide +kernel
theorem dX3_level_4 : decode cX3_level 4 = .ok (.aload_n 0, 1) := by decide +kernel
theorem dX3_level_5 : decode cX3_level 5 = .ok (.getfield 34, 3) := by decide +kernel
theorem dX3_level_8 : decode cX3_level 8 = .ok (.invokevirtual 93, 3) := by decide +kernel
theorem dX3_level_11 : decode cX3_level 11 = .ok (.ireturn, 1) := by decide +kernel
theorem dX3_units_0 : decode cX3_units 0 = .ok (.aload_n 0, 1) := by decide +kernel
theorem dX3_units_1 : decode cX3_units 1 = .ok (.getfield 34, 3) := by decide +kernel
theorem dX3_units_4 : decode cX3_units 4 = .ok (.ireturn, 1) := by decide +kernel
theorem dX3_minutesGone_0 : decode cX3_minutesGone 0 = .ok (.aload_n 0, 1) := by decide +kernel
theorem dX3_minutesGone_1 : decode cX3_minutesGone 1 = .ok (.getfield 38, 3) := by decide +kernel
theorem dX3_minutesGone_4 : decode cX3_minutesGone 4 = .ok (.ireturn, 1) := by decide +kernel
theorem dX3_allOver_0 : decode cX3_allOver 0 = .ok (.aload_n 0, 1) := by decide +kernel
theorem dX3_allOver_1 : decode cX3_allOver 1 = .ok (.getfield 41, 3) := by decide +kernel
theorem dX3_allOver_4 : decode cX3_allOver 4 = .ok (.ireturn, 1) := by decide +kernel
theorem dX3_allSeeped_0 : decode cX3_allSeeped 0 = .ok (.aload_n 0, 1) := by decide +kernel
theorem dX3_allSeeped_1 : decode cX3_allSeeped 1 = .ok (.getfield 44, 3) := by decide +kernel
theorem dX3_allSeeped_4 : decode cX3_allSeeped 4 = .ok (.ireturn, 1) := by decide +kernel
theorem dX3_edgeHeight_0 : decode cX3_edgeHeight 0 = .ok (.aload_n 0, 1) := by decide +kernel
theorem dX3_edgeHeight_1 : decode cX3_edgeHeight 1 = .ok (.getfield 63, 3) := by decide +kernel
theorem dX3_edgeHeight_4 : decode cX3_edgeHeight 4 = .ok (.ireturn, 1) := by decide +kernel
theorem dX3_lowestPlace_0 : decode cX3_lowestPlace 0 = .ok (.aload_n 0, 1) := by decide +kernel
theorem dX3_lowestPlace_1 : decode cX3_lowestPlace 1 = .ok (.getfield 66, 3) := by decide +kernel
theorem dX3_lowestPlace_4 : decode cX3_lowestPlace 4 = .ok (.ireturn, 1) := by decide +kernel
theorem dX3_overInMinute_0 : decode cX3_overInMinute 0 = .ok (.aload_n 0, 1) := by decide +kernel
theorem dX3_overInMinute_1 : decode cX3_overInMinute 1 = .ok (.getfield 99, 3) := by decide +kernel
theorem dX3_overInMinute_4 : decode cX3_overInMinute 4 = .ok (.ireturn, 1) := by decide +kernel
theorem dX3_placeOver_0 : decode cX3_placeOver 0 = .ok (.aload_n 0, 1) := by decide +kernel
theorem dX3_placeOver_1 : decode cX3_placeOver 1 = .ok (.getfield 102, 3) := by decide +kernel
theorem dX3_placeOver_4 : decode cX3_placeOver 4 = .ok (.ireturn, 1) := by decide +kernel
theorem dX3_breachedCell_0 : decode cX3_breachedCell 0 = .ok (.aload_n 0, 1) := by decide +kernel
theorem dX3_breachedCell_1 : decode cX3_breachedCell 1 = .ok (.getfield 105, 3) := by decide +kernel
theorem dX3_breachedCell_4 : decode cX3_breachedCell 4 = .ok (.ireturn, 1) := by decide +kernel
theorem dX4_init_0 : decode cX4_init 0 = .ok (.aload_n 0, 1) := by decide +kernel
theorem dX4_init_1 : decode cX4_init 1 = .ok (.invokespecial 3, 3) := by decide +kernel
theorem dX4_init_4 : decode cX4_init 4 = .ok (.aload_n 0, 1) := by decide +kernel
theorem dX4_init_5 : decode cX4_init 5 = .ok (.bipush 8, 2) := by decide +kernel
theorem dX4_init_7 : decode cX4_init 7 = .ok (.newarray .int, 2) := by decide +kernel
theorem dX4_init_9 : decode cX4_init 9 = .ok (.putfield 9, 3) := by decide +kernel
theorem dX4_init_12 : decode cX4_init 12 = .ok (.aload_n 0, 1) := by decide +kernel
theorem dX4_init_13 : decode cX4_init 13 = .ok (.bipush 8, 2) := by decide +kernel
theorem dX4_init_15 : decode cX4_init 15 = .ok (.newarray .int, 2) := by decide +kernel
theorem dX4_init_17 : decode cX4_init 17 = .ok (.putfield 15, 3) := by decide +kernel
theorem dX4_init_20 : decode cX4_init 20 = .ok (.aload_n 0, 1) := by decide +kernel
theorem dX4_init_21 : decode cX4_init 21 = .ok (.new 18, 3) := by decide +kernel
theorem dX4_init_24 : decode cX4_init 24 = .ok (.dup, 1) := by decide +kernel
theorem dX4_init_25 : decode cX4_init 25 = .ok (.invokespecial 20, 3) := by decide +kernel
theorem dX4_init_28 : decode cX4_init 28 = .ok (.putfield 21, 3) := by decide +kernel
theorem dX4_init_31 : decode cX4_init 31 = .ok (.aload_n 0, 1) := by decide +kernel
theorem dX4_init_32 : decode cX4_init 32 = .ok (.new 25, 3) := by decide +kernel
theorem dX4_init_35 : decode cX4_init 35 = .ok (.dup, 1) := by decide +kernel
theorem dX4_init_36 : decode cX4_init 36 = .ok (.invokespecial 27, 3) := by decide +kernel
theorem dX4_init_39 : decode cX4_init 39 = .ok (.putfield 28, 3) := by decide +kernel
theorem dX4_init_42 : decode cX4_init 42 = .ok (.return_, 1) := by decide +kernel
theorem dX4_readFrom_0 : decode cX4_readFrom 0 = .ok (.aload_n 0, 1) := by decide +kernel
theorem dX4_readFrom_1 : decode cX4_readFrom 1 = .ok (.invokevirtual 32, 3) := by decide +kernel
theorem dX4_readFrom_4 : decode cX4_readFrom 4 = .ok (.iconst 0, 1) := by decide +kernel
theorem dX4_readFrom_5 : decode cX4_readFrom 5 = .ok (.istore_n 2, 1) := by decide +kernel
theorem dX4_readFrom_6 : decode cX4_readFrom 6 = .ok (.iconst 0, 1) := by decide +kernel
theorem dX4_readFrom_7 : decode cX4_readFrom 7 = .ok (.istore_n 3, 1) := by decide +kernel
theorem dX4_readFrom_8 : decode cX4_readFrom 8 = .ok (.iload_n 3, 1) := by decide +kernel
theorem dX4_readFrom_9 : decode cX4_readFrom 9 = .ok (.sipush 200, 3) := by decide +kernel
theorem dX4_readFrom_12 : decode cX4_readFrom 12 = .ok (.if_icmp .ge 49, 3) := by decide +kernel
theorem dX4_readFrom_15 : decode cX4_readFrom 15 = .ok (.iload_n 2, 1) := by decide +kernel
theorem dX4_readFrom_16 : decode cX4_readFrom 16 = .ok (.aload_n 1, 1) := by decide +kernel
theorem dX4_readFrom_17 : decode cX4_readFrom 17 = .ok (.invokevirtual 35, 3) := by decide +kernel
theorem dX4_readFrom_20 : decode cX4_readFrom 20 = .ok (.if_icmp .ge 41, 3) := by decide +kernel
theorem dX4_readFrom_23 : decode cX4_readFrom 23 = .ok (.aload_n 1, 1) := by decide +kernel
theorem dX4_readFrom_24 : decode cX4_readFrom 24 = .ok (.iload_n 2, 1) := by decide +kernel
theorem dX4_readFrom_25 : decode cX4_readFrom 25 = .ok (.invokevirtual 41, 3) := by decide +kernel
theorem dX4_readFrom_28 : decode cX4_readFrom 28 = .ok (.istore 4, 2) := by decide +kernel
theorem dX4_readFrom_30 : decode cX4_readFrom 30 = .ok (.iload 4, 2) := by decide +kernel
theorem dX4_readFrom_32 : decode cX4_readFrom 32 = .ok (.bipush (-4), 2) := by decide +kernel
theorem dX4_readFrom_34 : decode cX4_readFrom 34 = .ok (.if_icmp .eq 16, 3) := by decide +kernel
theorem dX4_readFrom_37 : decode cX4_readFrom 37 = .ok (.aload_n 0, 1) := by decide +kernel
theorem dX4_readFrom_38 : decode cX4_readFrom 38 = .ok (.aload_n 1, 1) := by decide +kernel
theorem dX4_readFrom_39 : decode cX4_readFrom 39 = .ok (.iload_n 2, 1) := by decide +kernel
theorem dX4_readFrom_40 : decode cX4_readFrom 40 = .ok (.invokevirtual 45, 3) := by decide +kernel
theorem dX4_readFrom_43 : decode cX4_readFrom 43 = .ok (.aload_n 1, 1) := by decide +kernel
theorem dX4_readFrom_44 : decode cX4_readFrom 44 = .ok (.invokevirtual 48, 3) := by decide +kernel
theorem dX4_readFrom_47 : decode cX4_readFrom 47 = .ok (.ifCond .ne 5, 3) := by decide +kernel
theorem dX4_readFrom_50 : decode cX4_readFrom 50 = .ok (.iload_n 2, 1) := by decide +kernel
theorem dX4_readFrom_51 : decode cX4_readFrom 51 = .ok (.ireturn, 1) := by decide +kernel
theorem dX4_readFrom_52 : decode cX4_readFrom 52 = .ok (.iload 4, 2) := by decide +kernel
theorem dX4_readFrom_54 : decode cX4_readFrom 54 = .ok (.istore_n 2, 1) := by decide +kernel
theorem dX4_readFrom_55 : decode cX4_readFrom 55 = .ok (.iinc 3 1, 3) := by decide +kernel
theorem dX4_readFrom_58 : decode cX4_readFrom 58 = .ok (.goto (-50), 3) := by decide +kernel
theorem dX4_readFrom_61 : decode cX4_readFrom 61 = .ok (.aload_n 0, 1) := by decide +kernel
theorem dX4_readFrom_62 : decode cX4_readFrom 62 = .ok (.getfield 21, 3) := by decide +kernel
theorem dX4_readFrom_65 : decode cX4_readFrom 65 = .ok (.invokevirtual 52, 3) := by decide +kernel
theorem dX4_readFrom_68 : decode cX4_readFrom 68 = .ok (.bipush (-4), 2) := by decide +kernel
theorem dX4_readFrom_70 : decode cX4_readFrom 70 = .ok (.ireturn, 1) := by decide +kernel
theorem dX4_clear_0 : decode cX4_clear 0 = .ok (.aload_n 0, 1) := by decide +kernel
theorem dX4_clear_1 : decode cX4_clear 1 = .ok (.iconst 0, 1) := by decide +kernel
theorem dX4_clear_2 : decode cX4_clear 2 = .ok (.putfield 55, 3) := by decide +kernel
theorem dX4_clear_5 : decode cX4_clear 5 = .ok (.aload_n 0, 1) := by decide +kernel
theorem dX4_clear_6 : decode cX4_clear 6 = .ok (.bipush 20, 2) := by decide +kernel
theorem dX4_clear_8 : decode cX4_clear 8 = .ok (.putfield 59, 3) := by decide +kernel
theorem dX4_clear_11 : decode cX4_clear 11 = .ok (.aload_n 0, 1) := by decide +kernel
theorem dX4_clear_12 : decode cX4_clear 12 = .ok (.bipush 20, 2) := by decide +kernel
theorem dX4_clear_14 : decode cX4_clear 14 = .ok (.putfield 62, 3) := by decide +kernel
theorem dX4_clear_17 : decode cX4_clear 17 = .ok (.aload_n 0, 1) := by decide +kernel
theorem dX4_clear_18 : decode cX4_clear 18 = .ok (.bipush 6, 2) := by decide +kernel
theorem dX4_clear_20 : decode cX4_clear 20 = .ok (.putfield 65, 3) := by decide +kernel
theorem dX4_clear_23 : decode cX4_clear 23 = .ok (.aload_n 0, 1) := by decide +kernel
theorem dX4_clear_24 : decode cX4_clear 24 = .ok (.iconst 1, 1) := by decide +kernel
theorem dX4_clear_25 : decode cX4_clear 25 = .ok (.putfield 68, 3) := by decide +kernel
theorem dX4_clear_28 : decode cX4_clear 28 = .ok (.aload_n 0, 1) := by decide +kernel
theorem dX4_clear_29 : decode cX4_clear 29 = .ok (.getfield 21, 3) := by decide +kernel
theorem dX4_clear_32 : decode cX4_clear 32 = .ok (.invokevirtual 71, 3) := by decide +kernel
theorem dX4_clear_35 : decode cX4_clear 35 = .ok (.aload_n 0, 1) := by decide +kernel
theorem dX4_clear_36 : decode cX4_clear 36 = .ok (.getfield 28, 3) := by decide +kernel
theorem dX4_clear_39 : decode cX4_clear 39 = .ok (.invokevirtual 72, 3) := by decide +kernel
theorem dX4_clear_42 : decode cX4_clear 42 = .ok (.return_, 1) := by decide +kernel
theorem dX4_takeItem_0 : decode cX4_takeItem 0 = .ok (.aload_n 2, 1) := by decide +kernel
theorem dX4_takeItem_1 : decode cX4_takeItem 1 = .ok (.invokevirtual 73, 3) := by decide +kernel
theorem dX4_takeItem_4 : decode cX4_takeItem 4 = .ok (.istore_n 3, 1) := by decide +kernel
theorem dX4_takeItem_5 : decode cX4_takeItem 5 = .ok (.aload_n 2, 1) := by decide +kernel
theorem dX4_takeItem_6 : decode cX4_takeItem 6 = .ok (.iconst 0, 1) := by decide +kernel
theorem dX4_takeItem_7 : decode cX4_takeItem 7 = .ok (.invokevirtual 76, 3) := by decide +kernel
theorem dX4_takeItem_10 : decode cX4_takeItem 10 = .ok (.istore 4, 2) := by decide +kernel
theorem dX4_takeItem_12 : decode cX4_takeItem 12 = .ok (.aload_n 2, 1) := by decide +kernel
theorem dX4_takeItem_13 : decode cX4_takeItem 13 = .ok (.iconst 1, 1) := by decide +kernel
theorem dX4_takeItem_14 : decode cX4_takeItem 14 = .ok (.invokevirtual 76, 3) := by decide +kernel
theorem dX4_takeItem_17 : decode cX4_takeItem 17 = .ok (.istore 5, 2) := by decide +kernel
theorem dX4_takeItem_19 : decode cX4_takeItem 19 = .ok (.aload_n 2, 1) := by decide +kernel
theorem dX4_takeItem_20 : decode cX4_takeItem 20 = .ok (.iconst 2, 1) := by decide +kernel
theorem dX4_takeItem_21 : decode cX4_takeItem 21 = .ok (.invokevirtual 76, 3) := by decide +kernel
theorem dX4_takeItem_24 : decode cX4_takeItem 24 = .ok (.istore 6, 2) := by decide +kernel
theorem dX4_takeItem_26 : decode cX4_takeItem 26 = .ok (.iload_n 1, 1) := by decide +kernel
theorem dX4_takeItem_27 : decode cX4_takeItem 27 = .ok (.tableswitch 259 97 114 #[129, 107, 85, 259, 259, 151, 259, 259, 259, 225, 259, 259, 259, 259, 259, 203, 259, 176], 85) := by decide +kernel
theorem dX4_takeItem_112 : decode cX4_takeItem 112 = .ok (.iload_n 3, 1) := by decide +kernel
theorem dX4_takeItem_113 : decode cX4_takeItem 113 = .ok (.iconst 2, 1) := by decide +kernel
theorem dX4_takeItem_114 : decode cX4_takeItem 114 = .ok (.if_icmp .ne 18, 3) := by decide +kernel
theorem dX4_takeItem_117 : decode cX4_takeItem 117 = .ok (.aload_n 0, 1) := by decide +kernel
theorem dX4_takeItem_118 : decode cX4_takeItem 118 = .ok (.iload 4, 2) := by decide +kernel
theorem dX4_takeItem_120 : decode cX4_takeItem 120 = .ok (.iload 5, 2) := by decide +kernel
theorem dX4_takeItem_122 : decode cX4_takeItem 122 = .ok (.invokevirtual 79, 3) := by decide +kernel
theorem dX4_takeItem_125 : decode cX4_takeItem 125 = .ok (.ifCond .eq 7, 3) := by decide +kernel
theorem dX4_takeItem_128 : decode cX4_takeItem 128 = .ok (.iconst 1, 1) := by decide +kernel
theorem dX4_takeItem_129 : decode cX4_takeItem 129 = .ok (.goto 4, 3) := by decide +kernel
theorem dX4_takeItem_132 : decode cX4_takeItem 132 = .ok (.iconst 0, 1) := by decide +kernel
theorem dX4_takeItem_133 : decode cX4_takeItem 133 = .ok (.ireturn, 1) := by decide +kernel
theorem dX4_takeItem_134 : decode cX4_takeItem 134 = .ok (.iload_n 3, 1) := by decide +kernel
theorem dX4_takeItem_135 : decode cX4_takeItem 135 = .ok (.iconst 2, 1) := by decide +kernel
theorem dX4_takeItem_136 : decode cX4_takeItem 136 = .ok (.if_icmp .ne 18, 3) := by decide +kernel
theorem dX4_takeItem_139 : decode cX4_takeItem 139 = .ok (.aload_n 0, 1) := by decide +kernel
theorem dX4_takeItem_140 : decode cX4_takeItem 140 = .ok (.iload 4, 2) := by decide +kernel
theorem dX4_takeItem_142 : decode cX4_takeItem 142 = .ok (.iload 5, 2) := by decide +kernel
theorem dX4_takeItem_144 : decode cX4_takeItem 144 = .ok (.invokevirtual 83, 3) := by decide +kernel
theorem dX4_takeItem_147 : decode cX4_takeItem 147 = .ok (.ifCond .eq 7, 3) := by decide +kernel
theorem dX4_takeItem_150 : decode cX4_takeItem 150 = .ok (.iconst 1, 1) := by decide +kernel
theorem dX4_takeItem_151 : decode cX4_takeItem 151 = .ok (.goto 4, 3) := by decide +kernel
theorem dX4_takeItem_154 : decode cX4_takeItem 154 = .ok (.iconst 0, 1) := by decide +kernel
theorem dX4_takeItem_155 : decode cX4_takeItem 155 = .ok (.ireturn, 1) := by decide +kernel
theorem dX4_takeItem_156 : decode cX4_takeItem 156 = .ok (.iload_n 3, 1) := by decide +kernel
theorem dX4_takeItem_157 : decode cX4_takeItem 157 = .ok (.iconst 2, 1) := by decide +kernel
theorem dX4_takeItem_158 : decode cX4_takeItem 158 = .ok (.if_icmp .ne 18, 3) := by decide +kernel
theorem dX4_takeItem_161 : decode cX4_takeItem 161 = .ok (.aload_n 0, 1) := by decide +kernel
theorem dX4_takeItem_162 : decode cX4_takeItem 162 = .ok (.iload 4, 2) := by decide +kernel
theorem dX4_takeItem_164 : decode cX4_takeItem 164 = .ok (.iload 5, 2) := by decide +kernel
theorem dX4_takeItem_166 : decode cX4_takeItem 166 = .ok (.invokevirtual 86, 3) := by decide +kernel
theorem dX4_takeItem_169 : decode cX4_takeItem 169 = .ok (.ifCond .eq 7, 3) := by decide +kernel
theorem dX4_takeItem_172 : decode cX4_takeItem 172 = .ok (.iconst 1, 1) := by decide +kernel
theorem dX4_takeItem_173 : decode cX4_takeItem 173 = .ok (.goto 4, 3) := by decide +kernel
theorem dX4_takeItem_176 : decode cX4_takeItem 176 = .ok (.iconst 0, 1) := by decide +kernel
theorem dX4_takeItem_177 : decode cX4_takeItem 177 = .ok (.ireturn, 1) := by decide +kernel
theorem dX4_takeItem_178 : decode cX4_takeItem 178 = .ok (.iload_n 3, 1) := by decide +kernel
theorem dX4_takeItem_179 : decode cX4_takeItem 179 = .ok (.iconst 2, 1) := by decide +kernel
theorem dX4_takeItem_180 : decode cX4_takeItem 180 = .ok (.if_icmp .ne 21, 3) := by decide +kernel
theorem dX4_takeItem_183 : decode cX4_takeItem 183 = .ok (.aload_n 0, 1) := by decide +kernel
theorem dX4_takeItem_184 : decode cX4_takeItem 184 = .ok (.getfield 21, 3) := by decide +kernel
theorem dX4_takeItem_187 : decode cX4_takeItem 187 = .ok (.iload 4, 2) := by decide +kernel
theorem dX4_takeItem_189 : decode cX4_takeItem 189 = .ok (.iload 5, 2) := by decide +kernel
theorem dX4_takeItem_191 : decode cX4_takeItem 191 = .ok (.invokevirtual 89, 3) := by decide +kernel
theorem dX4_takeItem_194 : decode cX4_takeItem 194 = .ok (.ifCond .eq 7, 3) := by decide +kernel
theorem dX4_takeItem_197 : decode cX4_takeItem 197 = .ok (.iconst 1, 1) := by decide +kernel
theorem dX4_takeItem_198 : decode cX4_takeItem 198 = .ok (.goto 4, 3) := by decide +kernel
theorem dX4_takeItem_201 : decode cX4_takeItem 201 = .ok (.iconst 0, 1) := by decide +kernel
theorem dX4_takeItem_202 : decode cX4_takeItem 202 = .ok (.ireturn, 1) := by decide +kernel
theorem dX4_takeItem_203 : decode cX4_takeItem 203 = .ok (.iload_n 3, 1) := by decide +kernel
theorem dX4_takeItem_204 : decode cX4_takeItem 204 = .ok (.iconst 3, 1) := by decide +kernel
theorem dX4_takeItem_205 : decode cX4_takeItem 205 = .ok (.if_icmp .ne 23, 3) := by decide +kernel
theorem dX4_takeItem_208 : decode cX4_takeItem 208 = .ok (.aload_n 0, 1) := by decide +kernel
theorem dX4_takeItem_209 : decode cX4_takeItem 209 = .ok (.getfield 21, 3) := by decide +kernel
theorem dX4_takeItem_212 : decode cX4_takeItem 212 = .ok (.iload 4, 2) := by decide +kernel
theorem dX4_takeItem_214 : decode cX4_takeItem 214 = .ok (.iload 5, 2) := by decide +kernel
theorem dX4_takeItem_216 : decode cX4_takeItem 216 = .ok (.iload 6, 2) := by decide +kernel
theorem dX4_takeItem_218 : decode cX4_takeItem 218 = .ok (.invokevirtual 92, 3) := by decide +kernel
theorem dX4_takeItem_221 : decode cX4_takeItem 221 = .ok (.ifCond .eq 7, 3) := by decide +kernel
theorem dX4_takeItem_224 : decode cX4_takeItem 224 = .ok (.iconst 1, 1) := by decide +kernel
theorem dX4_takeItem_225 : decode cX4_takeItem 225 = .ok (.goto 4, 3) := by decide +kernel
theorem dX4_takeItem_228 : decode cX4_takeItem 228 = .ok (.iconst 0, 1) := by decide +kernel
theorem dX4_takeItem_229 : decode cX4_takeItem 229 = .ok (.ireturn, 1) := by decide +kernel
theorem dX4_takeItem_230 : decode cX4_takeItem 230 = .ok (.iload_n 3, 1) := by decide +kernel
theorem dX4_takeItem_231 : decode cX4_takeItem 231 = .ok (.iconst 4, 1) := by decide +kernel
theorem dX4_takeItem_232 : decode cX4_takeItem 232 = .ok (.if_icmp .ne 18, 3) := by decide +kernel
theorem dX4_takeItem_235 : decode cX4_takeItem 235 = .ok (.aload_n 0, 1) := by decide +kernel
theorem dX4_takeItem_236 : decode cX4_takeItem 236 = .ok (.getfield 28, 3) := by decide +kernel
theorem dX4_takeItem_239 : decode cX4_takeItem 239 = .ok (.aload_n 2, 1) := by decide +kernel
theorem dX4_takeItem_240 : decode cX4_takeItem 240 = .ok (.invokevirtual 96, 3) := by decide +kernel
theorem dX4_takeItem_243 : decode cX4_takeItem 243 = .ok (.ifCond .eq 7, 3) := by decide +kernel
theorem dX4_takeItem_246 : decode cX4_takeItem 246 = .ok (.iconst 1, 1) := by decide +kernel
theorem dX4_takeItem_247 : decode cX4_takeItem 247 = .ok (.goto 4, 3) := by decide +kernel
theorem dX4_takeItem_250 : decode cX4_takeItem 250 = .ok (.iconst 0, 1) := by decide +kernel
theorem dX4_takeItem_251 : decode cX4_takeItem 251 = .ok (.ireturn, 1) := by decide +kernel
theorem dX4_takeItem_252 : decode cX4_takeItem 252 = .ok (.iload_n 3, 1) := by decide +kernel
theorem dX4_takeItem_253 : decode cX4_takeItem 253 = .ok (.iconst 3, 1) := by decide +kernel
theorem dX4_takeItem_254 : decode cX4_takeItem 254 = .ok (.if_icmp .ne 30, 3) := by decide +kernel
theorem dX4_takeItem_257 : decode cX4_takeItem 257 = .ok (.iload 4, 2) := by decide +kernel
theorem dX4_takeItem_259 : decode cX4_takeItem 259 = .ok (.aload_n 0, 1) := by decide +kernel
theorem dX4_takeItem_260 : decode cX4_takeItem 260 = .ok (.getfield 55, 3) := by decide +kernel
theorem dX4_takeItem_263 : decode cX4_takeItem 263 = .ok (.if_icmp .ge 21, 3) := by decide +kernel
theorem dX4_takeItem_266 : decode cX4_takeItem 266 = .ok (.aload_n 0, 1) := by decide +kernel
theorem dX4_takeItem_267 : decode cX4_takeItem 267 = .ok (.getfield 28, 3) := by decide +kernel
theorem dX4_takeItem_270 : decode cX4_takeItem 270 = .ok (.iload 5, 2) := by decide +kernel
theorem dX4_takeItem_272 : decode cX4_takeItem 272 = .ok (.iload 6, 2) := by decide +kernel
theorem dX4_takeItem_274 : decode cX4_takeItem 274 = .ok (.invokevirtual 100, 3) := by decide +kernel
theorem dX4_takeItem_277 : decode cX4_takeItem 277 = .ok (.ifCond .eq 7, 3) := by decide +kernel
theorem dX4_takeItem_280 : decode cX4_takeItem 280 = .ok (.iconst 1, 1) := by decide +kernel
theorem dX4_takeItem_281 : decode cX4_takeItem 281 = .ok (.goto 4, 3) := by decide +kernel
theorem dX4_takeItem_284 : decode cX4_takeItem 284 = .ok (.iconst 0, 1) := by decide +kernel
theorem dX4_takeItem_285 : decode cX4_takeItem 285 = .ok (.ireturn, 1) := by decide +kernel
theorem dX4_takeItem_286 : decode cX4_takeItem 286 = .ok (.iconst 0, 1) := by decide +kernel
theorem dX4_takeItem_287 : decode cX4_takeItem 287 = .ok (.ireturn, 1) := by decide +kernel
theorem dX4_addCell_0 : decode cX4_addCell 0 = .ok (.aload_n 0, 1) := by decide +kernel
theorem dX4_addCell_1 : decode cX4_addCell 1 = .ok (.getfield 55, 3) := by decide +kernel
theorem dX4_addCell_4 : decode cX4_addCell 4 = .ok (.ifCond .lt 25, 3) := by decide +kernel
theorem dX4_addCell_7 : decode cX4_addCell 7 = .ok (.aload_n 0, 1) := by decide +kernel
theorem dX4_addCell_8 : decode cX4_addCell 8 = .ok (.getfield 55, 3) := by decide +kernel
theorem dX4_addCell_11 : decode cX4_addCell 11 = .ok (.bipush 8, 2) := by decide +kernel
theorem dX4_addCell_13 : decode cX4_addCell 13 = .ok (.if_icmp .ge 16, 3) := by decide +kernel
theorem dX4_addCell_16 : decode cX4_addCell 16 = .ok (.iload_n 1, 1) := by decide +kernel
theorem dX4_addCell_17 : decode cX4_addCell 17 = .ok (.bipush 40, 2) := by decide +kernel
theorem dX4_addCell_19 : decode cX4_addCell 19 = .ok (.if_icmp .gt 10, 3) := by decide +kernel
theorem dX4_addCell_22 : decode cX4_addCell 22 = .ok (.iload_n 2, 1) := by decide +kernel
theorem dX4_addCell_23 : decode cX4_addCell 23 = .ok (.invokestatic 103, 3) := by decide +kernel
theorem dX4_addCell_26 : decode cX4_addCell 26 = .ok (.ifCond .ne 5, 3) := by decide +kernel
theorem dX4_addCell_29 : decode cX4_addCell 29 = .ok (.iconst 0, 1) := by decide +kernel
theorem dX4_addCell_30 : decode cX4_addCell 30 = .ok (.ireturn, 1) := by decide +kernel
theorem dX4_addCell_31 : decode cX4_addCell 31 = .ok (.aload_n 0, 1) := by decide +kernel
theorem dX4_addCell_32 : decode cX4_addCell 32 = .ok (.getfield 9, 3) := by decide +kernel
theorem dX4_addCell_35 : decode cX4_addCell 35 = .ok (.aload_n 0, 1) := by decide +kernel
theorem dX4_addCell_36 : decode cX4_addCell 36 = .ok (.getfield 55, 3) := by decide +kernel
theorem dX4_addCell_39 : decode cX4_addCell 39 = .ok (.iload_n 1, 1) := by decide +kernel
theorem dX4_addCell_40 : decode cX4_addCell 40 = .ok (.iastore, 1) := by decide +kernel
theorem dX4_addCell_41 : decode cX4_addCell 41 = .ok (.aload_n 0, 1) := by decide +kernel
theorem dX4_addCell_42 : decode cX4_addCell 42 = .ok (.getfield 15, 3) := by decide +kernel
theorem dX4_addCell_45 : decode cX4_addCell 45 = .ok (.aload_n 0, 1) := by decide +kernel
theorem dX4_addCell_46 : decode cX4_addCell 46 = .ok (.getfield 55, 3) := by decide +kernel
theorem dX4_addCell_49 : decode cX4_addCell 49 = .ok (.iload_n 2, 1) := by decide +kernel
theorem dX4_addCell_50 : decode cX4_addCell 50 = .ok (.iastore, 1) := by decide +kernel
theorem dX4_addCell_51 : decode cX4_addCell 51 = .ok (.aload_n 0, 1) := by decide +kernel
theorem dX4_addCell_52 : decode cX4_addCell 52 = .ok (.dup, 1) := by decide +kernel
theorem dX4_addCell_53 : decode cX4_addCell 53 = .ok (.getfield 55, 3) := by decide +kernel
theorem dX4_addCell_56 : decode cX4_addCell 56 = .ok (.iconst 1, 1) := by decide +kernel
theorem dX4_addCell_57 : decode cX4_addCell 57 = .ok (.iadd, 1) := by decide +kernel
theorem dX4_addCell_58 : decode cX4_addCell 58 = .ok (.putfield 55, 3) := by decide +kernel
theorem dX4_addCell_61 : decode cX4_addCell 61 = .ok (.iconst 1, 1) := by decide +kernel
theorem dX4_addCell_62 : decode cX4_addCell 62 = .ok (.ireturn, 1) := by decide +kernel
theorem dX4_setBanks_0 : decode cX4_setBanks 0 = .ok (.aload_n 0, 1) := by decide +kernel
theorem dX4_setBanks_1 : decode cX4_setBanks 1 = .ok (.iload_n 1, 1) := by decide +kernel
theorem dX4_setBanks_2 : decode cX4_setBanks 2 = .ok (.putfield 59, 3) := by decide +kernel
theorem dX4_setBanks_5 : decode cX4_setBanks 5 = .ok (.aload_n 0, 1) := by decide +kernel
theorem dX4_setBanks_6 : decode cX4_setBanks 6 = .ok (.iload_n 2, 1) := by decide +kernel
theorem dX4_setBanks_7 : decode cX4_setBanks 7 = .ok (.putfield 62, 3) := by decide +kernel
theorem dX4_setBanks_10 : decode cX4_setBanks 10 = .ok (.iload_n 1, 1) := by decide +kernel
theorem dX4_setBanks_11 : decode cX4_setBanks 11 = .ok (.bipush 50, 2) := by decide +kernel
theorem dX4_setBanks_13 : decode cX4_setBanks 13 = .ok (.if_icmp .gt 13, 3) := by decide +kernel
theorem dX4_setBanks_16 : decode cX4_setBanks 16 = .ok (.iload_n 2, 1) := by decide +kernel
theorem dX4_setBanks_17 : decode cX4_setBanks 17 = .ok (.bipush 50, 2) := by decide +kernel
theorem dX4_setBanks_19 : decode cX4_setBanks 19 = .ok (.if_icmp .gt 7, 3) := by decide +kernel
theorem dX4_setBanks_22 : decode cX4_setBanks 22 = .ok (.iconst 1, 1) := by decide +kernel
theorem dX4_setBanks_23 : decode cX4_setBanks 23 = .ok (.goto 4, 3) := by decide +kernel
theorem dX4_setBanks_26 : decode cX4_setBanks 26 = .ok (.iconst 0, 1) := by decide +kernel
theorem dX4_setBanks_27 : decode cX4_setBanks 27 = .ok (.ireturn, 1) := by decide +kernel
theorem dX4_setLake_0 : decode cX4_setLake 0 = .ok (.aload_n 0, 1) := by decide +kernel
theorem dX4_setLake_1 : decode cX4_setLake 1 = .ok (.iload_n 1, 1) := by decide +kernel
theorem dX4_setLake_2 : decode cX4_setLake 2 = .ok (.putfield 65, 3) := by decide +kernel
theorem dX4_setLake_5 : decode cX4_setLake 5 = .ok (.aload_n 0, 1) := by decide +kernel
theorem dX4_setLake_6 : decode cX4_setLake 6 = .ok (.iload_n 2, 1) := by decide +kernel
theorem dX4_setLake_7 : decode cX4_setLake 7 = .ok (.putfield 68, 3) := by decide +kernel
theorem dX4_setLake_10 : decode cX4_setLake 10 = .ok (.iload_n 1, 1) := by decide +kernel
theorem dX4_setLake_11 : decode cX4_setLake 11 = .ok (.iconst 1, 1) := by decide +kernel
theorem dX4_setLake_12 : decode cX4_setLake 12 = .ok (.bipush 20, 2) := by decide +kernel
theorem dX4_setLake_14 : decode cX4_setLake 14 = .ok (.invokestatic 107, 3) := by decide +kernel
theorem dX4_setLake_17 : decode cX4_setLake 17 = .ok (.ifCond .eq 12, 3) := by decide +kernel
theorem dX4_setLake_20 : decode cX4_setLake 20 = .ok (.iload_n 2, 1) := by decide +kernel
theorem dX4_setLake_21 : decode cX4_setLake 21 = .ok (.iconst 5, 1) := by decide +kernel
theorem dX4_setLake_22 : decode cX4_setLake 22 = .ok (.if_icmp .gt 7, 3) := by decide +kernel
theorem dX4_setLake_25 : decode cX4_setLake 25 = .ok (.iconst 1, 1) := by decide +kernel
theorem dX4_setLake_26 : decode cX4_setLake 26 = .ok (.goto 4, 3) := by decide +kernel
theorem dX4_setLake_29 : decode cX4_setLake 29 = .ok (.iconst 0, 1) := by decide +kernel
theorem dX4_setLake_30 : decode cX4_setLake 30 = .ok (.ireturn, 1) := by decide +kernel
theorem dX4_cellCount_0 : decode cX4_cellCount 0 = .ok (.aload_n 0, 1) := by decide +kernel
theorem dX4_cellCount_1 : decode cX4_cellCount 1 = .ok (.getfield 55, 3) := by decide +kernel
theorem dX4_cellCount_4 : decode cX4_cellCount 4 = .ok (.ireturn, 1) := by decide +kernel
theorem dX4_firstHeight_0 : decode cX4_firstHeight 0 = .ok (.iload_n 1, 1) := by decide +kernel
theorem dX4_firstHeight_1 : decode cX4_firstHeight 1 = .ok (.ifCond .lt 26, 3) := by decide +kernel
theorem dX4_firstHeight_4 : decode cX4_firstHeight 4 = .ok (.iload_n 1, 1) := by decide +kernel
theorem dX4_firstHeight_5 : decode cX4_firstHeight 5 = .ok (.aload_n 0, 1) := by decide +kernel
theorem dX4_firstHeight_6 : decode cX4_firstHeight 6 = .ok (.getfield 55, 3) := by decide +kernel
theorem dX4_firstHeight_9 : decode cX4_firstHeight 9 = .ok (.if_icmp .ge 18, 3) := by decide +kernel
theorem dX4_firstHeight_12 : decode cX4_firstHeight 12 = .ok (.iload_n 1, 1) := by decide +kernel
theorem dX4_firstHeight_13 : decode cX4_firstHeight 13 = .ok (.bipush 8, 2) := by decide +kernel
theorem dX4_firstHeight_15 : decode cX4_firstHeight 15 = .ok (.if_icmp .ge 12, 3) := by decide +kernel
theorem dX4_firstHeight_18 : decode cX4_firstHeight 18 = .ok (.aload_n 0, 1) := by decide +kernel
theorem dX4_firstHeight_19 : decode cX4_firstHeight 19 = .ok (.getfield 9, 3) := by decide +kernel
theorem dX4_firstHeight_22 : decode cX4_firstHeight 22 = .ok (.iload_n 1, 1) := by decide +kernel
theorem dX4_firstHeight_23 : decode cX4_firstHeight 23 = .ok (.iaload, 1) := by decide +kernel
theorem dX4_firstHeight_24 : decode cX4_firstHeight 24 = .ok (.goto 4, 3) := by decide +kernel
theorem dX4_firstHeight_27 : decode cX4_firstHeight 27 = .ok (.iconst 0, 1) := by decide +kernel
theorem dX4_firstHeight_28 : decode cX4_firstHeight 28 = .ok (.ireturn, 1) := by decide +kernel
theorem dX4_firstStuff_0 : decode cX4_firstStuff 0 = .ok (.iload_n 1, 1) := by decide +kernel
theorem dX4_firstStuff_1 : decode cX4_firstStuff 1 = .ok (.ifCond .lt 26, 3) := by decide +kernel
theorem dX4_firstStuff_4 : decode cX4_firstStuff 4 = .ok (.iload_n 1, 1) := by decide +kernel
theorem dX4_firstStuff_5 : decode cX4_firstStuff 5 = .ok (.aload_n 0, 1) := by decide +kernel
theorem dX4_firstStuff_6 : decode cX4_firstStuff 6 = .ok (.getfield 55, 3) := by decide +kernel
theorem dX4_firstStuff_9 : decode cX4_firstStuff 9 = .ok (.if_icmp .ge 18, 3) := by decide +kernel
theorem dX4_firstStuff_12 : decode cX4_firstStuff 12 = .ok (.iload_n 1, 1) := by decide +kernel
theorem dX4_firstStuff_13 : decode cX4_firstStuff 13 = .ok (.bipush 8, 2) := by decide +kernel
theorem dX4_firstStuff_15 : decode cX4_firstStuff 15 = .ok (.if_icmp .ge 12, 3) := by decide +kernel
theorem dX4_firstStuff_18 : decode cX4_firstStuff 18 = .ok (.aload_n 0, 1) := by decide +kernel
theorem dX4_firstStuff_19 : decode cX4_firstStuff 19 = .ok (.getfield 15, 3) := by decide +kernel
theorem dX4_firstStuff_22 : decode cX4_firstStuff 22 = .ok (.iload_n 1, 1) := by decide +kernel
theorem dX4_firstStuff_23 : decode cX4_firstStuff 23 = .ok (.iaload, 1) := by decide +kernel
theorem dX4_firstStuff_24 : decode cX4_firstStuff 24 = .ok (.goto 4, 3) := by decide +kernel
theorem dX4_firstStuff_27 : decode cX4_firstStuff 27 = .ok (.iconst 0, 1) := by decide +kernel
theorem dX4_firstStuff_28 : decode cX4_firstStuff 28 = .ok (.ireturn, 1) := by decide +kernel
theorem dX4_left_0 : decode cX4_left 0 = .ok (.aload_n 0, 1) := by decide +kernel
theorem dX4_left_1 : decode cX4_left 1 = .ok (.getfield 59, 3) := by decide +kernel
theorem dX4_left_4 : decode cX4_left 4 = .ok (.ireturn, 1) := by decide +kernel
theorem dX4_right_0 : decode cX4_right 0 = .ok (.aload_n 0, 1) := by decide +kernel
theorem dX4_right_1 : decode cX4_right 1 = .ok (.getfield 62, 3) := by decide +kernel
theorem dX4_right_4 : decode cX4_right 4 = .ok (.ireturn, 1) := by decide +kernel
theorem dX4_brook_0 : decode cX4_brook 0 = .ok (.aload_n 0, 1) := by decide +kernel
theorem dX4_brook_1 : decode cX4_brook 1 = .ok (.getfield 21, 3) := by decide +kernel
theorem dX4_brook_4 : decode cX4_brook 4 = .ok (.areturn, 1) := by decide +kernel
theorem dX4_crew_0 : decode cX4_crew 0 = .ok (.aload_n 0, 1) := by decide +kernel
theorem dX4_crew_1 : decode cX4_crew 1 = .ok (.getfield 28, 3) := by decide +kernel
theorem dX4_crew_4 : decode cX4_crew 4 = .ok (.areturn, 1) := by decide +kernel
theorem dX4_takes_0 : decode cX4_takes 0 = .ok (.aload_n 0, 1) := by decide +kernel
theorem dX4_takes_1 : decode cX4_takes 1 = .ok (.getfield 65, 3) := by decide +kernel
theorem dX4_takes_4 : decode cX4_takes 4 = .ok (.iload_n 1, 1) := by decide +kernel
theorem dX4_takes_5 : decode cX4_takes 5 = .ok (.imul, 1) := by decide +kernel
theorem dX4_takes_6 : decode cX4_takes 6 = .ok (.aload_n 0, 1) := by decide +kernel
theorem dX4_takes_7 : decode cX4_takes 7 = .ok (.getfield 68, 3) := by decide +kernel
theorem dX4_takes_10 : decode cX4_takes 10 = .ok (.iload_n 1, 1) := by decide +kernel
theorem dX4_takes_11 : decode cX4_takes 11 = .ok (.iload_n 1, 1) := by decide +kernel
theorem dX4_takes_12 : decode cX4_takes 12 = .ok (.iconst 1, 1) := by decide +kernel
theorem dX4_takes_13 : decode cX4_takes 13 = .ok (.iadd, 1) := by decide +kernel
theorem dX4_takes_14 : decode cX4_takes 14 = .ok (.imul, 1) := by decide +kernel
theorem dX4_takes_15 : decode cX4_takes 15 = .ok (.iconst 2, 1) := by decide +kernel
theorem dX4_takes_16 : decode cX4_takes 16 = .ok (.idiv, 1) := by decide +kernel
theorem dX4_takes_17 : decode cX4_takes 17 = .ok (.imul, 1) := by decide +kernel
theorem dX4_takes_18 : decode cX4_takes 18 = .ok (.iadd, 1) := by decide +kernel
theorem dX4_takes_19 : decode cX4_takes 19 = .ok (.ireturn, 1) := by decide +kernel
theorem dX4_levelOf_0 : decode cX4_levelOf 0 = .ok (.iconst 0, 1) := by decide +kernel
theorem dX4_levelOf_1 : decode cX4_levelOf 1 = .ok (.istore_n 2, 1) := by decide +kernel
theorem dX4_levelOf_2 : decode cX4_levelOf 2 = .ok (.bipush 32, 2) := by decide +kernel
theorem dX4_levelOf_4 : decode cX4_levelOf 4 = .ok (.istore_n 3, 1) := by decide +kernel
theorem dX4_levelOf_5 : decode cX4_levelOf 5 = .ok (.iload_n 3, 1) := by decide +kernel
theorem dX4_levelOf_6 : decode cX4_levelOf 6 = .ok (.ifCond .le 35, 3) := by decide +kernel
theorem dX4_levelOf_9 : decode cX4_levelOf 9 = .ok (.iload_n 2, 1) := by decide +kernel
theorem dX4_levelOf_10 : decode cX4_levelOf 10 = .ok (.iload_n 3, 1) := by decide +kernel
theorem dX4_levelOf_11 : decode cX4_levelOf 11 = .ok (.iadd, 1) := by decide +kernel
theorem dX4_levelOf_12 : decode cX4_levelOf 12 = .ok (.istore 4, 2) := by decide +kernel
theorem dX4_levelOf_14 : decode cX4_levelOf 14 = .ok (.iload 4, 2) := by decide +kernel
theorem dX4_levelOf_16 : decode cX4_levelOf 16 = .ok (.bipush 60, 2) := by decide +kernel
theorem dX4_levelOf_18 : decode cX4_levelOf 18 = .ok (.if_icmp .gt 16, 3) := by decide +kernel
theorem dX4_levelOf_21 : decode cX4_levelOf 21 = .ok (.aload_n 0, 1) := by decide +kernel
theorem dX4_levelOf_22 : decode cX4_levelOf 22 = .ok (.iload 4, 2) := by decide +kernel
theorem dX4_levelOf_24 : decode cX4_levelOf 24 = .ok (.invokevirtual 110, 3) := by decide +kernel
theorem dX4_levelOf_27 : decode cX4_levelOf 27 = .ok (.iload_n 1, 1) := by decide +kernel
theorem dX4_levelOf_28 : decode cX4_levelOf 28 = .ok (.if_icmp .gt 6, 3) := by decide +kernel
theorem dX4_levelOf_31 : decode cX4_levelOf 31 = .ok (.iload 4, 2) := by decide +kernel
theorem dX4_levelOf_33 : decode cX4_levelOf 33 = .ok (.istore_n 2, 1) := by decide +kernel
theorem dX4_levelOf_34 : decode cX4_levelOf 34 = .ok (.iload_n 3, 1) := by decide +kernel
theorem dX4_levelOf_35 : decode cX4_levelOf 35 = .ok (.iconst 2, 1) := by decide +kernel
theorem dX4_levelOf_36 : decode cX4_levelOf 36 = .ok (.idiv, 1) := by decide +kernel
theorem dX4_levelOf_37 : decode cX4_levelOf 37 = .ok (.istore_n 3, 1) := by decide +kernel
theorem dX4_levelOf_38 : decode cX4_levelOf 38 = .ok (.goto (-33), 3) := by decide +kernel
theorem dX4_levelOf_41 : decode cX4_levelOf 41 = .ok (.iload_n 2, 1) := by decide +kernel
theorem dX4_levelOf_42 : decode cX4_levelOf 42 = .ok (.ireturn, 1) := by decide +kernel
theorem dX5_init_0 : decode cX5_init 0 = .ok (.aload_n 0, 1) := by decide +kernel
theorem dX5_init_1 : decode cX5_init 1 = .ok (.invokespecial 3, 3) := by decide +kernel
theorem dX5_init_4 : decode cX5_init 4 = .ok (.aload_n 0, 1) := by decide +kernel
theorem dX5_init_5 : decode cX5_init 5 = .ok (.bipush 8, 2) := by decide +kernel
theorem dX5_init_7 : decode cX5_init 7 = .ok (.newarray .int, 2) := by decide +kernel
theorem dX5_init_9 : decode cX5_init 9 = .ok (.putfield 9, 3) := by decide +kernel
theorem dX5_init_12 : decode cX5_init 12 = .ok (.return_, 1) := by decide +kernel
theorem dX5_start_0 : decode cX5_start 0 = .ok (.iconst 0, 1) := by decide +kernel
theorem dX5_start_1 : decode cX5_start 1 = .ok (.istore_n 3, 1) := by decide +kernel
theorem dX5_start_2 : decode cX5_start 2 = .ok (.iload_n 3, 1) := by decide +kernel
theorem dX5_start_3 : decode cX5_start 3 = .ok (.bipush 8, 2) := by decide +kernel
theorem dX5_start_5 : decode cX5_start 5 = .ok (.if_icmp .ge 16, 3) := by decide +kernel
theorem dX5_start_8 : decode cX5_start 8 = .ok (.aload_n 0, 1) := by decide +kernel
theorem dX5_start_9 : decode cX5_start 9 = .ok (.getfield 9, 3) := by decide +kernel
theorem dX5_start_12 : decode cX5_start 12 = .ok (.iload_n 3, 1) := by decide +kernel
theorem dX5_start_13 : decode cX5_start 13 = .ok (.iconst 0, 1) := by decide +kernel
theorem dX5_start_14 : decode cX5_start 14 = .ok (.iastore, 1) := by decide +kernel
theorem dX5_start_15 : decode cX5_start 15 = .ok (.iinc 3 1, 3) := by decide +kernel
theorem dX5_start_18 : decode cX5_start 18 = .ok (.goto (-16), 3) := by decide +kernel
theorem dX5_start_21 : decode cX5_start 21 = .ok (.aload_n 0, 1) := by decide +kernel
theorem dX5_start_22 : decode cX5_start 22 = .ok (.getfield 9, 3) := by decide +kernel
theorem dX5_start_25 : decode cX5_start 25 = .ok (.iconst 0, 1) := by decide +kernel
theorem dX5_start_26 : decode cX5_start 26 = .ok (.iload_n 1, 1) := by decide +kernel
theorem dX5_start_27 : decode cX5_start 27 = .ok (.iastore, 1) := by decide +kernel
theorem dX5_start_28 : decode cX5_start 28 = .ok (.aload_n 0, 1) := by decide +kernel
theorem dX5_start_29 : decode cX5_start 29 = .ok (.iload_n 2, 1) := by decide +kernel
theorem dX5_start_30 : decode cX5_start 30 = .ok (.bipush 8, 2) := by decide +kernel
theorem dX5_start_32 : decode cX5_start 32 = .ok (.invokestatic 15, 3) := by decide +kernel
theorem dX5_start_35 : decode cX5_start 35 = .ok (.putfield 21, 3) := by decide +kernel
theorem dX5_start_38 : decode cX5_start 38 = .ok (.return_, 1) := by decide +kernel
theorem dX5_next_0 : decode cX5_next 0 = .ok (.aload_n 0, 1) := by decide +kernel
theorem dX5_next_1 : decode cX5_next 1 = .ok (.getfield 21, 3) := by decide +kernel
theorem dX5_next_4 : decode cX5_next 4 = .ok (.iconst 1, 1) := by decide +kernel
theorem dX5_next_5 : decode cX5_next 5 = .ok (.isub, 1) := by decide +kernel
theorem dX5_next_6 : decode cX5_next 6 = .ok (.istore_n 1, 1) := by decide +kernel
theorem dX5_next_7 : decode cX5_next 7 = .ok (.iload_n 1, 1) := by decide +kernel
theorem dX5_next_8 : decode cX5_next 8 = .ok (.iconst 1, 1) := by decide +kernel
theorem dX5_next_9 : decode cX5_next 9 = .ok (.isub, 1) := by decide +kernel
theorem dX5_next_10 : decode cX5_next 10 = .ok (.istore_n 2, 1) := by decide +kernel
theorem dX5_next_11 : decode cX5_next 11 = .ok (.iload_n 2, 1) := by decide +kernel
theorem dX5_next_12 : decode cX5_next 12 = .ok (.ifCond .lt 55, 3) := by decide +kernel
theorem dX5_next_15 : decode cX5_next 15 = .ok (.aload_n 0, 1) := by decide +kernel
theorem dX5_next_16 : decode cX5_next 16 = .ok (.getfield 9, 3) := by decide +kernel
theorem dX5_next_19 : decode cX5_next 19 = .ok (.iload_n 2, 1) := by decide +kernel
theorem dX5_next_20 : decode cX5_next 20 = .ok (.iaload, 1) := by decide +kernel
theorem dX5_next_21 : decode cX5_next 21 = .ok (.ifCond .le 40, 3) := by decide +kernel
theorem dX5_next_24 : decode cX5_next 24 = .ok (.aload_n 0, 1) := by decide +kernel
theorem dX5_next_25 : decode cX5_next 25 = .ok (.getfield 9, 3) := by decide +kernel
theorem dX5_next_28 : decode cX5_next 28 = .ok (.iload_n 1, 1) := by decide +kernel
theorem dX5_next_29 : decode cX5_next 29 = .ok (.iaload, 1) := by decide +kernel
theorem dX5_next_30 : decode cX5_next 30 = .ok (.iconst 1, 1) := by decide +kernel
theorem dX5_next_31 : decode cX5_next 31 = .ok (.iadd, 1) := by decide +kernel
theorem dX5_next_32 : decode cX5_next 32 = .ok (.istore_n 3, 1) := by decide +kernel
theorem dX5_next_33 : decode cX5_next 33 = .ok (.aload_n 0, 1) := by decide +kernel
theorem dX5_next_34 : decode cX5_next 34 = .ok (.getfield 9, 3) := by decide +kernel
theorem dX5_next_37 : decode cX5_next 37 = .ok (.iload_n 1, 1) := by decide +kernel
theorem dX5_next_38 : decode cX5_next 38 = .ok (.iconst 0, 1) := by decide +kernel
theorem dX5_next_39 : decode cX5_next 39 = .ok (.iastore, 1) := by decide +kernel
theorem dX5_next_40 : decode cX5_next 40 = .ok (.aload_n 0, 1) := by decide +kernel
theorem dX5_next_41 : decode cX5_next 41 = .ok (.getfield 9, 3) := by decide +kernel
theorem dX5_next_44 : decode cX5_next 44 = .ok (.iload_n 2, 1) := by decide +kernel
theorem dX5_next_45 : decode cX5_next 45 = .ok (.dup2, 1) := by decide +kernel
theorem dX5_next_46 : decode cX5_next 46 = .ok (.iaload, 1) := by decide +kernel
theorem dX5_next_47 : decode cX5_next 47 = .ok (.iconst 1, 1) := by decide +kernel
theorem dX5_next_48 : decode cX5_next 48 = .ok (.isub, 1) := by decide +kernel
theorem dX5_next_49 : decode cX5_next 49 = .ok (.iastore, 1) := by decide +kernel
theorem dX5_next_50 : decode cX5_next 50 = .ok (.aload_n 0, 1) := by decide +kernel
theorem dX5_next_51 : decode cX5_next 51 = .ok (.getfield 9, 3) := by decide +kernel
theorem dX5_next_54 : decode cX5_next 54 = .ok (.iload_n 2, 1) := by decide +kernel
theorem dX5_next_55 : decode cX5_next 55 = .ok (.iconst 1, 1) := by decide +kernel
theorem dX5_next_56 : decode cX5_next 56 = .ok (.iadd, 1) := by decide +kernel
theorem dX5_next_57 : decode cX5_next 57 = .ok (.iload_n 3, 1) := by decide +kernel
theorem dX5_next_58 : decode cX5_next 58 = .ok (.iastore, 1) := by decide +kernel
theorem dX5_next_59 : decode cX5_next 59 = .ok (.iconst 1, 1) := by decide +kernel
theorem dX5_next_60 : decode cX5_next 60 = .ok (.ireturn, 1) := by decide +kernel
theorem dX5_next_61 : decode cX5_next 61 = .ok (.iinc 2 (-1), 3) := by decide +kernel
theorem dX5_next_64 : decode cX5_next 64 = .ok (.goto (-53), 3) := by decide +kernel
theorem dX5_next_67 : decode cX5_next 67 = .ok (.iconst 0, 1) := by decide +kernel
theorem dX5_next_68 : decode cX5_next 68 = .ok (.ireturn, 1) := by decide +kernel
theorem dX5_inchesAt_0 : decode cX5_inchesAt 0 = .ok (.iload_n 1, 1) := by decide +kernel
theorem dX5_inchesAt_1 : decode cX5_inchesAt 1 = .ok (.ifCond .lt 18, 3) := by decide +kernel
theorem dX5_inchesAt_4 : decode cX5_inchesAt 4 = .ok (.iload_n 1, 1) := by decide +kernel
theorem dX5_inchesAt_5 : decode cX5_inchesAt 5 = .ok (.bipush 8, 2) := by decide +kernel
theorem dX5_inchesAt_7 : decode cX5_inchesAt 7 = .ok (.if_icmp .ge 12, 3) := by decide +kernel
theorem dX5_inchesAt_10 : decode cX5_inchesAt 10 = .ok (.aload_n 0, 1) := by decide +kernel
theorem dX5_inchesAt_11 : decode cX5_inchesAt 11 = .ok (.getfield 9, 3) := by decide +kernel
theorem dX5_inchesAt_14 : decode cX5_inchesAt 14 = .ok (.iload_n 1, 1) := by decide +kernel
theorem dX5_inchesAt_15 : decode cX5_inchesAt 15 = .ok (.iaload, 1) := by decide +kernel
theorem dX5_inchesAt_16 : decode cX5_inchesAt 16 = .ok (.goto 4, 3) := by decide +kernel
theorem dX5_inchesAt_19 : decode cX5_inchesAt 19 = .ok (.iconst 0, 1) := by decide +kernel
theorem dX5_inchesAt_20 : decode cX5_inchesAt 20 = .ok (.ireturn, 1) := by decide +kernel
theorem dX5_copyFrom_0 : decode cX5_copyFrom 0 = .ok (.iconst 0, 1) := by decide +kernel
theorem dX5_copyFrom_1 : decode cX5_copyFrom 1 = .ok (.istore_n 2, 1) := by decide +kernel
theorem dX5_copyFrom_2 : decode cX5_copyFrom 2 = .ok (.iload_n 2, 1) := by decide +kernel
theorem dX5_copyFrom_3 : decode cX5_copyFrom 3 = .ok (.bipush 8, 2) := by decide +kernel
theorem dX5_copyFrom_5 : decode cX5_copyFrom 5 = .ok (.if_icmp .ge 21, 3) := by decide +kernel
theorem dX5_copyFrom_8 : decode cX5_copyFrom 8 = .ok (.aload_n 0, 1) := by decide +kernel
theorem dX5_copyFrom_9 : decode cX5_copyFrom 9 = .ok (.getfield 9, 3) := by decide +kernel
theorem dX5_copyFrom_12 : decode cX5_copyFrom 12 = .ok (.iload_n 2, 1) := by decide +kernel
theorem dX5_copyFrom_13 : decode cX5_copyFrom 13 = .ok (.aload_n 1, 1) := by decide +kernel
theorem dX5_copyFrom_14 : decode cX5_copyFrom 14 = .ok (.getfield 9, 3) := by decide +kernel
theorem dX5_copyFrom_17 : decode cX5_copyFrom 17 = .ok (.iload_n 2, 1) := by decide +kernel
theorem dX5_copyFrom_18 : decode cX5_copyFrom 18 = .ok (.iaload, 1) := by decide +kernel
theorem dX5_copyFrom_19 : decode cX5_copyFrom 19 = .ok (.iastore, 1) := by decide +kernel
theorem dX5_copyFrom_20 : decode cX5_copyFrom 20 = .ok (.iinc 2 1, 3) := by decide +kernel
theorem dX5_copyFrom_23 : decode cX5_copyFrom 23 = .ok (.goto (-21), 3) := by decide +kernel
theorem dX5_copyFrom_26 : decode cX5_copyFrom 26 = .ok (.aload_n 0, 1) := by decide +kernel
theorem dX5_copyFrom_27 : decode cX5_copyFrom 27 = .ok (.aload_n 1, 1) := by decide +kernel
theorem dX5_copyFrom_28 : decode cX5_copyFrom 28 = .ok (.getfield 21, 3) := by decide +kernel
theorem dX5_copyFrom_31 : decode cX5_copyFrom 31 = .ok (.putfield 21, 3) := by decide +kernel
theorem dX5_copyFrom_34 : decode cX5_copyFrom 34 = .ok (.return_, 1) := by decide +kernel
theorem dX6_init_0 : decode cX6_init 0 = .ok (.aload_n 0, 1) := by decide +kernel
theorem dX6_init_1 : decode cX6_init 1 = .ok (.invokespecial 3, 3) := by decide +kernel
theorem dX6_init_4 : decode cX6_init 4 = .ok (.aload_n 0, 1) := by decide +kernel
theorem dX6_init_5 : decode cX6_init 5 = .ok (.bipush 8, 2) := by decide +kernel
theorem dX6_init_7 : decode cX6_init 7 = .ok (.newarray .int, 2) := by decide +kernel
theorem dX6_init_9 : decode cX6_init 9 = .ok (.putfield 9, 3) := by decide +kernel
theorem dX6_init_12 : decode cX6_init 12 = .ok (.aload_n 0, 1) := by decide +kernel
theorem dX6_init_13 : decode cX6_init 13 = .ok (.bipush 8, 2) := by decide +kernel
theorem dX6_init_15 : decode cX6_init 15 = .ok (.newarray .int, 2) := by decide +kernel
theorem dX6_init_17 : decode cX6_init 17 = .ok (.putfield 15, 3) := by decide +kernel
theorem dX6_init_20 : decode cX6_init 20 = .ok (.return_, 1) := by decide +kernel
theorem dX6_size_0 : decode cX6_size 0 = .ok (.aload_n 0, 1) := by decide +kernel
theorem dX6_size_1 : decode cX6_size 1 = .ok (.getfield 18, 3) := by decide +kernel
theorem dX6_size_4 : decode cX6_size 4 = .ok (.ireturn, 1) := by decide +kernel
theorem dX6_clear_0 : decode cX6_clear 0 = .ok (.aload_n 0, 1) := by decide +kernel
theorem dX6_clear_1 : decode cX6_clear 1 = .ok (.iconst 0, 1) := by decide +kernel
theorem dX6_clear_2 : decode cX6_clear 2 = .ok (.putfield 18, 3) := by decide +kernel
theorem dX6_clear_5 : decode cX6_clear 5 = .ok (.return_, 1) := by decide +kernel
theorem dX6_add_0 : decode cX6_add 0 = .ok (.aload_n 0, 1) := by decide +kernel
theorem dX6_add_1 : decode cX6_add 1 = .ok (.getfield 18, 3) := by decide +kernel
theorem dX6_add_4 : decode cX6_add 4 = .ok (.ifCond .lt 12, 3) := by decide +kernel
theorem dX6_add_7 : decode cX6_add 7 = .ok (.aload_n 0, 1) := by decide +kernel
theorem dX6_add_8 : decode cX6_add 8 = .ok (.getfield 18, 3) := by decide +kernel
theorem dX6_add_11 : decode cX6_add 11 = .ok (.bipush 8, 2) := by decide +kernel
theorem dX6_add_13 : decode cX6_add 13 = .ok (.if_icmp .lt 5, 3) := by decide +kernel
theorem dX6_add_16 : decode cX6_add 16 = .ok (.iconst 0, 1) := by decide +kernel
theorem dX6_add_17 : decode cX6_add 17 = .ok (.ireturn, 1) := by decide +kernel
theorem dX6_add_18 : decode cX6_add 18 = .ok (.aload_n 0, 1) := by decide +kernel
theorem dX6_add_19 : decode cX6_add 19 = .ok (.getfield 9, 3) := by decide +kernel
theorem dX6_add_22 : decode cX6_add 22 = .ok (.aload_n 0, 1) := by decide +kernel
theorem dX6_add_23 : decode cX6_add 23 = .ok (.getfield 18, 3) := by decide +kernel
theorem dX6_add_26 : decode cX6_add 26 = .ok (.iload_n 1, 1) := by decide +kernel
theorem dX6_add_27 : decode cX6_add 27 = .ok (.iastore, 1) := by decide +kernel
theorem dX6_add_28 : decode cX6_add 28 = .ok (.aload_n 0, 1) := by decide +kernel
theorem dX6_add_29 : decode cX6_add 29 = .ok (.getfield 15, 3) := by decide +kernel
theorem dX6_add_32 : decode cX6_add 32 = .ok (.aload_n 0, 1) := by decide +kernel
theorem dX6_add_33 : decode cX6_add 33 = .ok (.getfield 18, 3) := by decide +kernel
theorem dX6_add_36 : decode cX6_add 36 = .ok (.iload_n 2, 1) := by decide +kernel
theorem dX6_add_37 : decode cX6_add 37 = .ok (.iastore, 1) := by decide +kernel
theorem dX6_add_38 : decode cX6_add 38 = .ok (.aload_n 0, 1) := by decide +kernel
theorem dX6_add_39 : decode cX6_add 39 = .ok (.dup, 1) := by decide +kernel
theorem dX6_add_40 : decode cX6_add 40 = .ok (.getfield 18, 3) := by decide +kernel
theorem dX6_add_43 : decode cX6_add 43 = .ok (.iconst 1, 1) := by decide +kernel
theorem dX6_add_44 : decode cX6_add 44 = .ok (.iadd, 1) := by decide +kernel
theorem dX6_add_45 : decode cX6_add 45 = .ok (.putfield 18, 3) := by decide +kernel
theorem dX6_add_48 : decode cX6_add 48 = .ok (.iconst 1, 1) := by decide +kernel
theorem dX6_add_49 : decode cX6_add 49 = .ok (.ireturn, 1) := by decide +kernel
theorem dX6_agreeWith_0 : decode cX6_agreeWith 0 = .ok (.iconst 0, 1) := by decide +kernel
theorem dX6_agreeWith_1 : decode cX6_agreeWith 1 = .ok (.istore_n 3, 1) := by decide +kernel
theorem dX6_agreeWith_2 : decode cX6_agreeWith 2 = .ok (.iload_n 3, 1) := by decide +kernel
theorem dX6_agreeWith_3 : decode cX6_agreeWith 3 = .ok (.aload_n 0, 1) := by decide +kernel
theorem dX6_agreeWith_4 : decode cX6_agreeWith 4 = .ok (.getfield 18, 3) := by decide +kernel
theorem dX6_agreeWith_7 : decode cX6_agreeWith 7 = .ok (.if_icmp .ge 38, 3) := by decide +kernel
theorem dX6_agreeWith_10 : decode cX6_agreeWith 10 = .ok (.iload_n 3, 1) := by decide +kernel
theorem dX6_agreeWith_11 : decode cX6_agreeWith 11 = .ok (.bipush 8, 2) := by decide +kernel
theorem dX6_agreeWith_13 : decode cX6_agreeWith 13 = .ok (.if_icmp .ge 32, 3) := by decide +kernel
theorem dX6_agreeWith_16 : decode cX6_agreeWith 16 = .ok (.aload_n 2, 1) := by decide +kernel
theorem dX6_agreeWith_17 : decode cX6_agreeWith 17 = .ok (.iload_n 1, 1) := by decide +kernel
theorem dX6_agreeWith_18 : decode cX6_agreeWith 18 = .ok (.aload_n 0, 1) := by decide +kernel
theorem dX6_agreeWith_19 : decode cX6_agreeWith 19 = .ok (.getfield 15, 3) := by decide +kernel
theorem dX6_agreeWith_22 : decode cX6_agreeWith 22 = .ok (.iload_n 3, 1) := by decide +kernel
theorem dX6_agreeWith_23 : decode cX6_agreeWith 23 = .ok (.iaload, 1) := by decide +kernel
theorem dX6_agreeWith_24 : decode cX6_agreeWith 24 = .ok (.imul, 1) := by decide +kernel
theorem dX6_agreeWith_25 : decode cX6_agreeWith 25 = .ok (.invokevirtual 22, 3) := by decide +kernel
theorem dX6_agreeWith_28 : decode cX6_agreeWith 28 = .ok (.aload_n 0, 1) := by decide +kernel
theorem dX6_agreeWith_29 : decode cX6_agreeWith 29 = .ok (.getfield 9, 3) := by decide +kernel
theorem dX6_agreeWith_32 : decode cX6_agreeWith 32 = .ok (.iload_n 3, 1) := by decide +kernel
theorem dX6_agreeWith_33 : decode cX6_agreeWith 33 = .ok (.iaload, 1) := by decide +kernel
theorem dX6_agreeWith_34 : decode cX6_agreeWith 34 = .ok (.if_icmp .eq 5, 3) := by decide +kernel
theorem dX6_agreeWith_37 : decode cX6_agreeWith 37 = .ok (.iconst 0, 1) := by decide +kernel
theorem dX6_agreeWith_38 : decode cX6_agreeWith 38 = .ok (.ireturn, 1) := by decide +kernel
theorem dX6_agreeWith_39 : decode cX6_agreeWith 39 = .ok (.iinc 3 1, 3) := by decide +kernel
theorem dX6_agreeWith_42 : decode cX6_agreeWith 42 = .ok (.goto (-40), 3) := by decide +kernel
theorem dX6_agreeWith_45 : decode cX6_agreeWith 45 = .ok (.iconst 1, 1) := by decide +kernel
theorem dX6_agreeWith_46 : decode cX6_agreeWith 46 = .ok (.ireturn, 1) := by decide +kernel
theorem dX7_init_0 : decode cX7_init 0 = .ok (.aload_n 0, 1) := by decide +kernel
theorem dX7_init_1 : decode cX7_init 1 = .ok (.invokespecial 3, 3) := by decide +kernel
theorem dX7_init_4 : decode cX7_init 4 = .ok (.aload_n 0, 1) := by decide +kernel
theorem dX7_init_5 : decode cX7_init 5 = .ok (.sipush 200, 3) := by decide +kernel
theorem dX7_init_8 : decode cX7_init 8 = .ok (.newarray .int, 2) := by decide +kernel
theorem dX7_init_10 : decode cX7_init 10 = .ok (.putfield 9, 3) := by decide +kernel
theorem dX7_init_13 : decode cX7_init 13 = .ok (.aload_n 0, 1) := by decide +kernel
theorem dX7_init_14 : decode cX7_init 14 = .ok (.iconst 4, 1) := by decide +kernel
theorem dX7_init_15 : decode cX7_init 15 = .ok (.newarray .int, 2) := by decide +kernel
theorem dX7_init_17 : decode cX7_init 17 = .ok (.putfield 15, 3) := by decide +kernel
theorem dX7_init_20 : decode cX7_init 20 = .ok (.return_, 1) := by decide +kernel
theorem dX7_size_0 : decode cX7_size 0 = .ok (.aload_n 0, 1) := by decide +kernel
theorem dX7_size_1 : decode cX7_size 1 = .ok (.getfield 18, 3) := by decide +kernel
theorem dX7_size_4 : decode cX7_size 4 = .ok (.ireturn, 1) := by decide +kernel
theorem dX7_clear_0 : decode cX7_clear 0 = .ok (.aload_n 0, 1) := by decide +kernel
theorem dX7_clear_1 : decode cX7_clear 1 = .ok (.iconst 0, 1) := by decide +kernel
theorem dX7_clear_2 : decode cX7_clear 2 = .ok (.putfield 18, 3) := by decide +kernel
theorem dX7_clear_5 : decode cX7_clear 5 = .ok (.return_, 1) := by decide +kernel
theorem dX7_add_0 : decode cX7_add 0 = .ok (.aload_n 0, 1) := by decide +kernel
theorem dX7_add_1 : decode cX7_add 1 = .ok (.getfield 18, 3) := by decide +kernel
theorem dX7_add_4 : decode cX7_add 4 = .ok (.ifCond .lt 13, 3) := by decide +kernel
theorem dX7_add_7 : decode cX7_add 7 = .ok (.aload_n 0, 1) := by decide +kernel
theorem dX7_add_8 : decode cX7_add 8 = .ok (.getfield 18, 3) := by decide +kernel
theorem dX7_add_11 : decode cX7_add 11 = .ok (.sipush 200, 3) := by decide +kernel
theorem dX7_add_14 : decode cX7_add 14 = .ok (.if_icmp .lt 5, 3) := by decide +kernel
theorem dX7_add_17 : decode cX7_add 17 = .ok (.iconst 0, 1) := by decide +kernel
theorem dX7_add_18 : decode cX7_add 18 = .ok (.ireturn, 1) := by decide +kernel
theorem dX7_add_19 : decode cX7_add 19 = .ok (.aload_n 0, 1) := by decide +kernel
theorem dX7_add_20 : decode cX7_add 20 = .ok (.getfield 9, 3) := by decide +kernel
theorem dX7_add_23 : decode cX7_add 23 = .ok (.aload_n 0, 1) := by decide +kernel
theorem dX7_add_24 : decode cX7_add 24 = .ok (.getfield 18, 3) := by decide +kernel
theorem dX7_add_27 : decode cX7_add 27 = .ok (.iload_n 1, 1) := by decide +kernel
theorem dX7_add_28 : decode cX7_add 28 = .ok (.iastore, 1) := by decide +kernel
theorem dX7_add_29 : decode cX7_add 29 = .ok (.aload_n 0, 1) := by decide +kernel
theorem dX7_add_30 : decode cX7_add 30 = .ok (.dup, 1) := by decide +kernel
theorem dX7_add_31 : decode cX7_add 31 = .ok (.getfield 18, 3) := by decide +kernel
theorem dX7_add_34 : decode cX7_add 34 = .ok (.iconst 1, 1) := by decide +kernel
theorem dX7_add_35 : decode cX7_add 35 = .ok (.iadd, 1) := by decide +kernel
theorem dX7_add_36 : decode cX7_add 36 = .ok (.putfield 18, 3) := by decide +kernel
theorem dX7_add_39 : decode cX7_add 39 = .ok (.iconst 1, 1) := by decide +kernel
theorem dX7_add_40 : decode cX7_add 40 = .ok (.ireturn, 1) := by decide +kernel
theorem dX7_letterAt_0 : decode cX7_letterAt 0 = .ok (.iload_n 1, 1) := by decide +kernel
theorem dX7_letterAt_1 : decode cX7_letterAt 1 = .ok (.ifCond .lt 27, 3) := by decide +kernel
theorem dX7_letterAt_4 : decode cX7_letterAt 4 = .ok (.iload_n 1, 1) := by decide +kernel
theorem dX7_letterAt_5 : decode cX7_letterAt 5 = .ok (.aload_n 0, 1) := by decide +kernel
theorem dX7_letterAt_6 : decode cX7_letterAt 6 = .ok (.getfield 18, 3) := by decide +kernel
theorem dX7_letterAt_9 : decode cX7_letterAt 9 = .ok (.if_icmp .ge 19, 3) := by decide +kernel
theorem dX7_letterAt_12 : decode cX7_letterAt 12 = .ok (.iload_n 1, 1) := by decide +kernel
theorem dX7_letterAt_13 : decode cX7_letterAt 13 = .ok (.sipush 200, 3) := by decide +kernel
theorem dX7_letterAt_16 : decode cX7_letterAt 16 = .ok (.if_icmp .ge 12, 3) := by decide +kernel
theorem dX7_letterAt_19 : decode cX7_letterAt 19 = .ok (.aload_n 0, 1) := by decide +kernel
theorem dX7_letterAt_20 : decode cX7_letterAt 20 = .ok (.getfield 9, 3) := by decide +kernel
theorem dX7_letterAt_23 : decode cX7_letterAt 23 = .ok (.iload_n 1, 1) := by decide +kernel
theorem dX7_letterAt_24 : decode cX7_letterAt 24 = .ok (.iaload, 1) := by decide +kernel
theorem dX7_letterAt_25 : decode cX7_letterAt 25 = .ok (.goto 4, 3) := by decide +kernel
theorem dX7_letterAt_28 : decode cX7_letterAt 28 = .ok (.iconst 0, 1) := by decide +kernel
theorem dX7_letterAt_29 : decode cX7_letterAt 29 = .ok (.ireturn, 1) := by decide +kernel
theorem dX7_numberCount_0 : decode cX7_numberCount 0 = .ok (.aload_n 0, 1) := by decide +kernel
theorem dX7_numberCount_1 : decode cX7_numberCount 1 = .ok (.getfield 22, 3) := by decide +kernel
theorem dX7_numberCount_4 : decode cX7_numberCount 4 = .ok (.ireturn, 1) := by decide +kernel
theorem dX7_numberAt_0 : decode cX7_numberAt 0 = .ok (.iload_n 1, 1) := by decide +kernel
theorem dX7_numberAt_1 : decode cX7_numberAt 1 = .ok (.ifCond .lt 25, 3) := by decide +kernel
theorem dX7_numberAt_4 : decode cX7_numberAt 4 = .ok (.iload_n 1, 1) := by decide +kernel
theorem dX7_numberAt_5 : decode cX7_numberAt 5 = .ok (.aload_n 0, 1) := by decide +kernel
theorem dX7_numberAt_6 : decode cX7_numberAt 6 = .ok (.getfield 22, 3) := by decide +kernel
theorem dX7_numberAt_9 : decode cX7_numberAt 9 = .ok (.if_icmp .ge 17, 3) := by decide +kernel
theorem dX7_numberAt_12 : decode cX7_numberAt 12 = .ok (.iload_n 1, 1) := by decide +kernel
theorem dX7_numberAt_13 : decode cX7_numberAt 13 = .ok (.iconst 4, 1) := by decide +kernel
theorem dX7_numberAt_14 : decode cX7_numberAt 14 = .ok (.if_icmp .ge 12, 3) := by decide +kernel
theorem dX7_numberAt_17 : decode cX7_numberAt 17 = .ok (.aload_n 0, 1) := by decide +kernel
theorem dX7_numberAt_18 : decode cX7_numberAt 18 = .ok (.getfield 15, 3) := by decide +kernel
theorem dX7_numberAt_21 : decode cX7_numberAt 21 = .ok (.iload_n 1, 1) := by decide +kernel
theorem dX7_numberAt_22 : decode cX7_numberAt 22 = .ok (.iaload, 1) := by decide +kernel
theorem dX7_numberAt_23 : decode cX7_numberAt 23 = .ok (.goto 4, 3) := by decide +kernel
theorem dX7_numberAt_26 : decode cX7_numberAt 26 = .ok (.iconst 0, 1) := by decide +kernel
theorem dX7_numberAt_27 : decode cX7_numberAt 27 = .ok (.ireturn, 1) := by decide +kernel
theorem dX7_readItem_0 : decode cX7_readItem 0 = .ok (.iload_n 1, 1) := by decide +kernel
theorem dX7_readItem_1 : decode cX7_readItem 1 = .ok (.iconst 1, 1) := by decide +kernel
theorem dX7_readItem_2 : decode cX7_readItem 2 = .ok (.iadd, 1) := by decide +kernel
theorem dX7_readItem_3 : decode cX7_readItem 3 = .ok (.istore_n 2, 1) := by decide +kernel
theorem dX7_readItem_4 : decode cX7_readItem 4 = .ok (.aload_n 0, 1) := by decide +kernel
theorem dX7_readItem_5 : decode cX7_readItem 5 = .ok (.iconst 0, 1) := by decide +kernel
theorem dX7_readItem_6 : decode cX7_readItem 6 = .ok (.putfield 22, 3) := by decide +kernel
theorem dX7_readItem_9 : decode cX7_readItem 9 = .ok (.iconst 0, 1) := by decide +kernel
theorem dX7_readItem_10 : decode cX7_readItem 10 = .ok (.istore_n 3, 1) := by decide +kernel
theorem dX7_readItem_11 : decode cX7_readItem 11 = .ok (.iload_n 3, 1) := by decide +kernel
theorem dX7_readItem_12 : decode cX7_readItem 12 = .ok (.iconst 4, 1) := by decide +kernel
theorem dX7_readItem_13 : decode cX7_readItem 13 = .ok (.if_icmp .ge 103, 3) := by decide +kernel
theorem dX7_readItem_16 : decode cX7_readItem 16 = .ok (.aload_n 0, 1) := by decide +kernel
theorem dX7_readItem_17 : decode cX7_readItem 17 = .ok (.iload_n 2, 1) := by decide +kernel
theorem dX7_readItem_18 : decode cX7_readItem 18 = .ok (.invokevirtual 25, 3) := by decide +kernel
theorem dX7_readItem_21 : decode cX7_readItem 21 = .ok (.istore 4, 2) := by decide +kernel
theorem dX7_readItem_23 : decode cX7_readItem 23 = .ok (.iload 4, 2) := by decide +kernel
theorem dX7_readItem_25 : decode cX7_readItem 25 = .ok (.ifCond .ne 6, 3) := by decide +kernel
theorem dX7_readItem_28 : decode cX7_readItem 28 = .ok (.bipush (-4), 2) := by decide +kernel
theorem dX7_readItem_30 : decode cX7_readItem 30 = .ok (.ireturn, 1) := by decide +kernel
theorem dX7_readItem_31 : decode cX7_readItem 31 = .ok (.aload_n 0, 1) := by decide +kernel
theorem dX7_readItem_32 : decode cX7_readItem 32 = .ok (.getfield 15, 3) := by decide +kernel
theorem dX7_readItem_35 : decode cX7_readItem 35 = .ok (.iload_n 3, 1) := by decide +kernel
theorem dX7_readItem_36 : decode cX7_readItem 36 = .ok (.iload 4, 2) := by decide +kernel
theorem dX7_readItem_38 : decode cX7_readItem 38 = .ok (.iconst 1, 1) := by decide +kernel
theorem dX7_readItem_39 : decode cX7_readItem 39 = .ok (.if_icmp .ne 11, 3) := by decide +kernel
theorem dX7_readItem_42 : decode cX7_readItem 42 = .ok (.aload_n 0, 1) := by decide +kernel
theorem dX7_readItem_43 : decode cX7_readItem 43 = .ok (.iload_n 2, 1) := by decide +kernel
theorem dX7_readItem_44 : decode cX7_readItem 44 = .ok (.invokevirtual 29, 3) := by decide +kernel
theorem dX7_readItem_47 : decode cX7_readItem 47 = .ok (.goto 19, 3) := by decide +kernel
theorem dX7_readItem_50 : decode cX7_readItem 50 = .ok (.bipush 10, 2) := by decide +kernel
theorem dX7_readItem_52 : decode cX7_readItem 52 = .ok (.aload_n 0, 1) := by decide +kernel
theorem dX7_readItem_53 : decode cX7_readItem 53 = .ok (.iload_n 2, 1) := by decide +kernel
theorem dX7_readItem_54 : decode cX7_readItem 54 = .ok (.invokevirtual 29, 3) := by decide +kernel
theorem dX7_readItem_57 : decode cX7_readItem 57 = .ok (.imul, 1) := by decide +kernel
theorem dX7_readItem_58 : decode cX7_readItem 58 = .ok (.aload_n 0, 1) := by decide +kernel
theorem dX7_readItem_59 : decode cX7_readItem 59 = .ok (.iload_n 2, 1) := by decide +kernel
theorem dX7_readItem_60 : decode cX7_readItem 60 = .ok (.iconst 1, 1) := by decide +kernel
theorem dX7_readItem_61 : decode cX7_readItem 61 = .ok (.iadd, 1) := by decide +kernel
theorem dX7_readItem_62 : decode cX7_readItem 62 = .ok (.invokevirtual 29, 3) := by decide +kernel
theorem dX7_readItem_65 : decode cX7_readItem 65 = .ok (.iadd, 1) := by decide +kernel
theorem dX7_readItem_66 : decode cX7_readItem 66 = .ok (.iastore, 1) := by decide +kernel
theorem dX7_readItem_67 : decode cX7_readItem 67 = .ok (.aload_n 0, 1) := by decide +kernel
theorem dX7_readItem_68 : decode cX7_readItem 68 = .ok (.iload_n 3, 1) := by decide +kernel
theorem dX7_readItem_69 : decode cX7_readItem 69 = .ok (.iconst 1, 1) := by decide +kernel
theorem dX7_readItem_70 : decode cX7_readItem 70 = .ok (.iadd, 1) := by decide +kernel
theorem dX7_readItem_71 : decode cX7_readItem 71 = .ok (.putfield 22, 3) := by decide +kernel
theorem dX7_readItem_74 : decode cX7_readItem 74 = .ok (.aload_n 0, 1) := by decide +kernel
theorem dX7_readItem_75 : decode cX7_readItem 75 = .ok (.iload_n 2, 1) := by decide +kernel
theorem dX7_readItem_76 : decode cX7_readItem 76 = .ok (.iload 4, 2) := by decide +kernel
theorem dX7_readItem_78 : decode cX7_readItem 78 = .ok (.iadd, 1) := by decide +kernel
theorem dX7_readItem_79 : decode cX7_readItem 79 = .ok (.invokevirtual 32, 3) := by decide +kernel
theorem dX7_readItem_82 : decode cX7_readItem 82 = .ok (.istore 5, 2) := by decide +kernel
theorem dX7_readItem_84 : decode cX7_readItem 84 = .ok (.iload_n 2, 1) := by decide +kernel
theorem dX7_readItem_85 : decode cX7_readItem 85 = .ok (.iload 4, 2) := by decide +kernel
theorem dX7_readItem_87 : decode cX7_readItem 87 = .ok (.iconst 1, 1) := by decide +kernel
theorem dX7_readItem_88 : decode cX7_readItem 88 = .ok (.iadd, 1) := by decide +kernel
theorem dX7_readItem_89 : decode cX7_readItem 89 = .ok (.iadd, 1) := by decide +kernel
theorem dX7_readItem_90 : decode cX7_readItem 90 = .ok (.istore_n 2, 1) := by decide +kernel
theorem dX7_readItem_91 : decode cX7_readItem 91 = .ok (.iload 5, 2) := by decide +kernel
theorem dX7_readItem_93 : decode cX7_readItem 93 = .ok (.bipush 59, 2) := by decide +kernel
theorem dX7_readItem_95 : decode cX7_readItem 95 = .ok (.if_icmp .ne 5, 3) := by decide +kernel
theorem dX7_readItem_98 : decode cX7_readItem 98 = .ok (.iload_n 2, 1) := by decide +kernel
theorem dX7_readItem_99 : decode cX7_readItem 99 = .ok (.ireturn, 1) := by decide +kernel
theorem dX7_readItem_100 : decode cX7_readItem 100 = .ok (.iload 5, 2) := by decide +kernel
theorem dX7_readItem_102 : decode cX7_readItem 102 = .ok (.bipush 44, 2) := by decide +kernel
theorem dX7_readItem_104 : decode cX7_readItem 104 = .ok (.if_icmp .eq 6, 3) := by decide +kernel
theorem dX7_readItem_107 : decode cX7_readItem 107 = .ok (.bipush (-4), 2) := by decide +kernel
theorem dX7_readItem_109 : decode cX7_readItem 109 = .ok (.ireturn, 1) := by decide +kernel
theorem dX7_readItem_110 : decode cX7_readItem 110 = .ok (.iinc 3 1, 3) := by decide +kernel
theorem dX7_readItem_113 : decode cX7_readItem 113 = .ok (.goto (-102), 3) := by decide +kernel
theorem dX7_readItem_116 : decode cX7_readItem 116 = .ok (.bipush (-4), 2) := by decide +kernel
theorem dX7_readItem_118 : decode cX7_readItem 118 = .ok (.ireturn, 1) := by decide +kernel
theorem dX7_figuresAt_0 : decode cX7_figuresAt 0 = .ok (.aload_n 0, 1) := by decide +kernel
theorem dX7_figuresAt_1 : decode cX7_figuresAt 1 = .ok (.iload_n 1, 1) := by decide +kernel
theorem dX7_figuresAt_2 : decode cX7_figuresAt 2 = .ok (.invokevirtual 29, 3) := by decide +kernel
theorem dX7_figuresAt_5 : decode cX7_figuresAt 5 = .ok (.bipush (-4), 2) := by decide +kernel
theorem dX7_figuresAt_7 : decode cX7_figuresAt 7 = .ok (.if_icmp .ne 5, 3) := by decide +kernel
theorem dX7_figuresAt_10 : decode cX7_figuresAt 10 = .ok (.iconst 0, 1) := by decide +kernel
theorem dX7_figuresAt_11 : decode cX7_figuresAt 11 = .ok (.ireturn, 1) := by decide +kernel
theorem dX7_figuresAt_12 : decode cX7_figuresAt 12 = .ok (.aload_n 0, 1) := by decide +kernel
theorem dX7_figuresAt_13 : decode cX7_figuresAt 13 = .ok (.iload_n 1, 1) := by decide +kernel
theorem dX7_figuresAt_14 : decode cX7_figuresAt 14 = .ok (.iconst 1, 1) := by decide +kernel
theorem dX7_figuresAt_15 : decode cX7_figuresAt 15 = .ok (.iadd, 1) := by decide +kernel
theorem dX7_figuresAt_16 : decode cX7_figuresAt 16 = .ok (.invokevirtual 29, 3) := by decide +kernel
theorem dX7_figuresAt_19 : decode cX7_figuresAt 19 = .ok (.bipush (-4), 2) := by decide +kernel
theorem dX7_figuresAt_21 : decode cX7_figuresAt 21 = .ok (.if_icmp .ne 7, 3) := by decide +kernel
theorem dX7_figuresAt_24 : decode cX7_figuresAt 24 = .ok (.iconst 1, 1) := by decide +kernel
theorem dX7_figuresAt_25 : decode cX7_figuresAt 25 = .ok (.goto 4, 3) := by decide +kernel
theorem dX7_figuresAt_28 : decode cX7_figuresAt 28 = .ok (.iconst 2, 1) := by decide +kernel
theorem dX7_figuresAt_29 : decode cX7_figuresAt 29 = .ok (.ireturn, 1) := by decide +kernel
theorem dX7_figureAt_0 : decode cX7_figureAt 0 = .ok (.aload_n 0, 1) := by decide +kernel
theorem dX7_figureAt_1 : decode cX7_figureAt 1 = .ok (.iload_n 1, 1) := by decide +kernel
theorem dX7_figureAt_2 : decode cX7_figureAt 2 = .ok (.invokevirtual 32, 3) := by decide +kernel
theorem dX7_figureAt_5 : decode cX7_figureAt 5 = .ok (.istore_n 2, 1) := by decide +kernel
theorem dX7_figureAt_6 : decode cX7_figureAt 6 = .ok (.iload_n 2, 1) := by decide +kernel
theorem dX7_figureAt_7 : decode cX7_figureAt 7 = .ok (.bipush 48, 2) := by decide +kernel
theorem dX7_figureAt_9 : decode cX7_figureAt 9 = .ok (.if_icmp .lt 16, 3) := by decide +kernel
theorem dX7_figureAt_12 : decode cX7_figureAt 12 = .ok (.iload_n 2, 1) := by decide +kernel
theorem dX7_figureAt_13 : decode cX7_figureAt 13 = .ok (.bipush 57, 2) := by decide +kernel
theorem dX7_figureAt_15 : decode cX7_figureAt 15 = .ok (.if_icmp .gt 10, 3) := by decide +kernel
theorem dX7_figureAt_18 : decode cX7_figureAt 18 = .ok (.iload_n 2, 1) := by decide +kernel
theorem dX7_figureAt_19 : decode cX7_figureAt 19 = .ok (.bipush 48, 2) := by decide +kernel
theorem dX7_figureAt_21 : decode cX7_figureAt 21 = .ok (.isub, 1) := by decide +kernel
theorem dX7_figureAt_22 : decode cX7_figureAt 22 = .ok (.goto 5, 3) := by decide +kernel
theorem dX7_figureAt_25 : decode cX7_figureAt 25 = .ok (.bipush (-4), 2) := by decide +kernel
theorem dX7_figureAt_27 : decode cX7_figureAt 27 = .ok (.ireturn, 1) := by decide +kernel
theorem dX8_init_0 : decode cX8_init 0 = .ok (.aload_n 0, 1) := by decide +kernel
theorem dX8_init_1 : decode cX8_init 1 = .ok (.invokespecial 1, 3) := by decide +kernel
theorem dX8_init_4 : decode cX8_init 4 = .ok (.aload_n 0, 1) := by decide +kernel
theorem dX8_init_5 : decode cX8_init 5 = .ok (.new 7, 3) := by decide +kernel
theorem dX8_init_8 : decode cX8_init 8 = .ok (.dup, 1) := by decide +kernel
theorem dX8_init_9 : decode cX8_init 9 = .ok (.invokespecial 9, 3) := by decide +kernel
theorem dX8_init_12 : decode cX8_init 12 = .ok (.putfield 10, 3) := by decide +kernel
theorem dX8_init_15 : decode cX8_init 15 = .ok (.aload_n 0, 1) := by decide +kernel
theorem dX8_init_16 : decode cX8_init 16 = .ok (.new 16, 3) := by decide +kernel
theorem dX8_init_19 : decode cX8_init 19 = .ok (.dup, 1) := by decide +kernel
theorem dX8_init_20 : decode cX8_init 20 = .ok (.invokespecial 18, 3) := by decide +kernel
theorem dX8_init_23 : decode cX8_init 23 = .ok (.putfield 19, 3) := by decide +kernel
theorem dX8_init_26 : decode cX8_init 26 = .ok (.aload_n 0, 1) := by decide +kernel
theorem dX8_init_27 : decode cX8_init 27 = .ok (.new 16, 3) := by decide +kernel
theorem dX8_init_30 : decode cX8_init 30 = .ok (.dup, 1) := by decide +kernel
theorem dX8_init_31 : decode cX8_init 31 = .ok (.invokespecial 18, 3) := by decide +kernel
theorem dX8_init_34 : decode cX8_init 34 = .ok (.putfield 23, 3) := by decide +kernel
theorem dX8_init_37 : decode cX8_init 37 = .ok (.aload_n 0, 1) := by decide +kernel
theorem dX8_init_38 : decode cX8_init 38 = .ok (.new 26, 3) := by decide +kernel
theorem dX8_init_41 : decode cX8_init 41 = .ok (.dup, 1) := by decide +kernel
theorem dX8_init_42 : decode cX8_init 42 = .ok (.aload_n 0, 1) := by decide +kernel
theorem dX8_init_43 : decode cX8_init 43 = .ok (.getfield 19, 3) := by decide +kernel
theorem dX8_init_46 : decode cX8_init 46 = .ok (.invokespecial 28, 3) := by decide +kernel
theorem dX8_init_49 : decode cX8_init 49 = .ok (.putfield 31, 3) := by decide +kernel
theorem dX8_init_52 : decode cX8_init 52 = .ok (.aload_n 0, 1) := by decide +kernel
theorem dX8_init_53 : decode cX8_init 53 = .ok (.new 26, 3) := by decide +kernel
theorem dX8_init_56 : decode cX8_init 56 = .ok (.dup, 1) := by decide +kernel
theorem dX8_init_57 : decode cX8_init 57 = .ok (.aload_n 0, 1) := by decide +kernel
theorem dX8_init_58 : decode cX8_init 58 = .ok (.getfield 19, 3) := by decide +kernel
theorem dX8_init_61 : decode cX8_init 61 = .ok (.invokespecial 28, 3) := by decide +kernel
theorem dX8_init_64 : decode cX8_init 64 = .ok (.putfield 35, 3) := by decide +kernel
theorem dX8_init_67 : decode cX8_init 67 = .ok (.aload_n 0, 1) := by decide +kernel
theorem dX8_init_68 : decode cX8_init 68 = .ok (.new 38, 3) := by decide +kernel
theorem dX8_init_71 : decode cX8_init 71 = .ok (.dup, 1) := by decide +kernel
theorem dX8_init_72 : decode cX8_init 72 = .ok (.invokespecial 40, 3) := by decide +kernel
theorem dX8_init_75 : decode cX8_init 75 = .ok (.putfield 41, 3) := by decide +kernel
theorem dX8_init_78 : decode cX8_init 78 = .ok (.aload_n 0, 1) := by decide +kernel
theorem dX8_init_79 : decode cX8_init 79 = .ok (.iconst 2, 1) := by decide +kernel
theorem dX8_init_80 : decode cX8_init 80 = .ok (.anewarray 38, 3) := by decide +kernel
theorem dX8_init_83 : decode cX8_init 83 = .ok (.putfield 45, 3) := by decide +kernel
theorem dX8_init_86 : decode cX8_init 86 = .ok (.iconst 0, 1) := by decide +kernel
theorem dX8_init_87 : decode cX8_init 87 = .ok (.istore_n 1, 1) := by decide +kernel
theorem dX8_init_88 : decode cX8_init 88 = .ok (.iload_n 1, 1) := by decide +kernel
theorem dX8_init_89 : decode cX8_init 89 = .ok (.iconst 2, 1) := by decide +kernel
theorem dX8_init_90 : decode cX8_init 90 = .ok (.if_icmp .ge 22, 3) := by decide +kernel
theorem dX8_init_93 : decode cX8_init 93 = .ok (.aload_n 0, 1) := by decide +kernel
theorem dX8_init_94 : decode cX8_init 94 = .ok (.getfield 45, 3) := by decide +kernel
theorem dX8_init_97 : decode cX8_init 97 = .ok (.iload_n 1, 1) := by decide +kernel
theorem dX8_init_98 : decode cX8_init 98 = .ok (.new 38, 3) := by decide +kernel
theorem dX8_init_101 : decode cX8_init 101 = .ok (.dup, 1) := by decide +kernel
theorem dX8_init_102 : decode cX8_init 102 = .ok (.invokespecial 40, 3) := by decide +kernel
theorem dX8_init_105 : decode cX8_init 105 = .ok (.aastore, 1) := by decide +kernel
theorem dX8_init_106 : decode cX8_init 106 = .ok (.iinc 1 1, 3) := by decide +kernel
theorem dX8_init_109 : decode cX8_init 109 = .ok (.goto (-21), 3) := by decide +kernel
theorem dX8_init_112 : decode cX8_init 112 = .ok (.aload_n 0, 1) := by decide +kernel
theorem dX8_init_113 : decode cX8_init 113 = .ok (.new 49, 3) := by decide +kernel
theorem dX8_init_116 : decode cX8_init 116 = .ok (.dup, 1) := by decide +kernel
theorem dX8_init_117 : decode cX8_init 117 = .ok (.invokespecial 51, 3) := by decide +kernel
theorem dX8_init_120 : decode cX8_init 120 = .ok (.putfield 52, 3) := by decide +kernel
theorem dX8_init_123 : decode cX8_init 123 = .ok (.aload_n 0, 1) := by decide +kernel
theorem dX8_init_124 : decode cX8_init 124 = .ok (.new 56, 3) := by decide +kernel
theorem dX8_init_127 : decode cX8_init 127 = .ok (.dup, 1) := by decide +kernel
theorem dX8_init_128 : decode cX8_init 128 = .ok (.invokespecial 58, 3) := by decide +kernel
theorem dX8_init_131 : decode cX8_init 131 = .ok (.putfield 59, 3) := by decide +kernel
theorem dX8_init_134 : decode cX8_init 134 = .ok (.aload_n 0, 1) := by decide +kernel
theorem dX8_init_135 : decode cX8_init 135 = .ok (.new 56, 3) := by decide +kernel
theorem dX8_init_138 : decode cX8_init 138 = .ok (.dup, 1) := by decide +kernel
theorem dX8_init_139 : decode cX8_init 139 = .ok (.invokespecial 58, 3) := by decide +kernel
theorem dX8_init_142 : decode cX8_init 142 = .ok (.putfield 63, 3) := by decide +kernel
theorem dX8_init_145 : decode cX8_init 145 = .ok (.iconst 0, 1) := by decide +kernel
theorem dX8_init_146 : decode cX8_init 146 = .ok (.istore_n 1, 1) := by decide +kernel
theorem dX8_init_147 : decode cX8_init 147 = .ok (.iload_n 1, 1) := by decide +kernel
theorem dX8_init_148 : decode cX8_init 148 = .ok (.ldc 66, 2) := by decide +kernel
theorem dX8_init_150 : decode cX8_init 150 = .ok (.invokevirtual 68, 3) := by decide +kernel
theorem dX8_init_153 : decode cX8_init 153 = .ok (.if_icmp .ge 23, 3) := by decide +kernel
theorem dX8_init_156 : decode cX8_init 156 = .ok (.aload_n 0, 1) := by decide +kernel
theorem dX8_init_157 : decode cX8_init 157 = .ok (.getfield 10, 3) := by decide +kernel
theorem dX8_init_160 : decode cX8_init 160 = .ok (.ldc 66, 2) := by decide +kernel
theorem dX8_init_162 : decode cX8_init 162 = .ok (.iload_n 1, 1) := by decide +kernel
theorem dX8_init_163 : decode cX8_init 163 = .ok (.invokevirtual 74, 3) := by decide +kernel
theorem dX8_init_166 : decode cX8_init 166 = .ok (.invokevirtual 78, 3) := by decide +kernel
theorem dX8_init_169 : decode cX8_init 169 = .ok (.pop, 1) := by decide +kernel
theorem dX8_init_170 : decode cX8_init 170 = .ok (.iinc 1 1, 3) := by decide +kernel
theorem dX8_init_173 : decode cX8_init 173 = .ok (.goto (-26), 3) := by decide +kernel
theorem dX8_init_176 : decode cX8_init 176 = .ok (.aload_n 0, 1) := by decide +kernel
theorem dX8_init_177 : decode cX8_init 177 = .ok (.getfield 19, 3) := by decide +kernel
theorem dX8_init_180 : decode cX8_init 180 = .ok (.aload_n 0, 1) := by decide +kernel
theorem dX8_init_181 : decode cX8_init 181 = .ok (.getfield 10, 3) := by decide +kernel
theorem dX8_init_184 : decode cX8_init 184 = .ok (.invokevirtual 82, 3) := by decide +kernel
theorem dX8_init_187 : decode cX8_init 187 = .ok (.pop, 1) := by decide +kernel
theorem dX8_init_188 : decode cX8_init 188 = .ok (.aload_n 0, 1) := by decide +kernel
theorem dX8_init_189 : decode cX8_init 189 = .ok (.getfield 10, 3) := by decide +kernel
theorem dX8_init_192 : decode cX8_init 192 = .ok (.invokevirtual 86, 3) := by decide +kernel
theorem dX8_init_195 : decode cX8_init 195 = .ok (.aload_n 0, 1) := by decide +kernel
theorem dX8_init_196 : decode cX8_init 196 = .ok (.getfield 31, 3) := by decide +kernel
theorem dX8_init_199 : decode cX8_init 199 = .ok (.invokevirtual 89, 3) := by decide +kernel
theorem dX8_init_202 : decode cX8_init 202 = .ok (.return_, 1) := by decide +kernel
theorem dX8_write_0 : decode cX8_write 0 = .ok (.iload_n 1, 1) := by decide +kernel
theorem dX8_write_1 : decode cX8_write 1 = .ok (.bipush 32, 2) := by decide +kernel
theorem dX8_write_3 : decode cX8_write 3 = .ok (.bipush 126, 2) := by decide +kernel
theorem dX8_write_5 : decode cX8_write 5 = .ok (.invokestatic 92, 3) := by decide +kernel
theorem dX8_write_8 : decode cX8_write 8 = .ok (.ifCond .ne 5, 3) := by decide +kernel
theorem dX8_write_11 : decode cX8_write 11 = .ok (.iconst (-1), 1) := by decide +kernel
theorem dX8_write_12 : decode cX8_write 12 = .ok (.ireturn, 1) := by decide +kernel
theorem dX8_write_13 : decode cX8_write 13 = .ok (.aload_n 0, 1) := by decide +kernel
theorem dX8_write_14 : decode cX8_write 14 = .ok (.getfield 10, 3) := by decide +kernel
theorem dX8_write_17 : decode cX8_write 17 = .ok (.iload_n 1, 1) := by decide +kernel
theorem dX8_write_18 : decode cX8_write 18 = .ok (.invokevirtual 78, 3) := by decide +kernel
theorem dX8_write_21 : decode cX8_write 21 = .ok (.ifCond .eq 13, 3) := by decide +kernel
theorem dX8_write_24 : decode cX8_write 24 = .ok (.aload_n 0, 1) := by decide +kernel
theorem dX8_write_25 : decode cX8_write 25 = .ok (.getfield 10, 3) := by decide +kernel
theorem dX8_write_28 : decode cX8_write 28 = .ok (.invokevirtual 96, 3) := by decide +kernel
theorem dX8_write_31 : decode cX8_write 31 = .ok (.goto 5, 3) := by decide +kernel
theorem dX8_write_34 : decode cX8_write 34 = .ok (.bipush (-3), 2) := by decide +kernel
theorem dX8_write_36 : decode cX8_write 36 = .ok (.ireturn, 1) := by decide +kernel
theorem dX8_wipe_0 : decode cX8_wipe 0 = .ok (.aload_n 0, 1) := by decide +kernel
theorem dX8_wipe_1 : decode cX8_wipe 1 = .ok (.getfield 10, 3) := by decide +kernel
theorem dX8_wipe_4 : decode cX8_wipe 4 = .ok (.invokevirtual 96, 3) := by decide +kernel
theorem dX8_wipe_7 : decode cX8_wipe 7 = .ok (.istore_n 1, 1) := by decide +kernel
theorem dX8_wipe_8 : decode cX8_wipe 8 = .ok (.aload_n 0, 1) := by decide +kernel
theorem dX8_wipe_9 : decode cX8_wipe 9 = .ok (.getfield 10, 3) := by decide +kernel
theorem dX8_wipe_12 : decode cX8_wipe 12 = .ok (.invokevirtual 86, 3) := by decide +kernel
theorem dX8_wipe_15 : decode cX8_wipe 15 = .ok (.iload_n 1, 1) := by decide +kernel
theorem dX8_wipe_16 : decode cX8_wipe 16 = .ok (.ireturn, 1) := by decide +kernel
theorem dX8_fault_0 : decode cX8_fault 0 = .ok (.aload_n 0, 1) := by decide +kernel
theorem dX8_fault_1 : decode cX8_fault 1 = .ok (.getfield 23, 3) := by decide +kernel
theorem dX8_fault_4 : decode cX8_fault 4 = .ok (.aload_n 0, 1) := by decide +kernel
theorem dX8_fault_5 : decode cX8_fault 5 = .ok (.getfield 10, 3) := by decide +kernel
theorem dX8_fault_8 : decode cX8_fault 8 = .ok (.invokevirtual 82, 3) := by decide +kernel
theorem dX8_fault_11 : decode cX8_fault 11 = .ok (.ireturn, 1) := by decide +kernel
theorem dX8_laid_0 : decode cX8_laid 0 = .ok (.aload_n 0, 1) := by decide +kernel
theorem dX8_laid_1 : decode cX8_laid 1 = .ok (.getfield 23, 3) := by decide +kernel
theorem dX8_laid_4 : decode cX8_laid 4 = .ok (.aload_n 0, 1) := by decide +kernel
theorem dX8_laid_5 : decode cX8_laid 5 = .ok (.getfield 10, 3) := by decide +kernel
theorem dX8_laid_8 : decode cX8_laid 8 = .ok (.invokevirtual 82, 3) := by decide +kernel
theorem dX8_laid_11 : decode cX8_laid 11 = .ok (.bipush (-4), 2) := by decide +kernel
theorem dX8_laid_13 : decode cX8_laid 13 = .ok (.if_icmp .ne 13, 3) := by decide +kernel
theorem dX8_laid_16 : decode cX8_laid 16 = .ok (.aload_n 0, 1) := by decide +kernel
theorem dX8_laid_17 : decode cX8_laid 17 = .ok (.getfield 23, 3) := by decide +kernel
theorem dX8_laid_20 : decode cX8_laid 20 = .ok (.invokevirtual 99, 3) := by decide +kernel
theorem dX8_laid_23 : decode cX8_laid 23 = .ok (.ifCond .ne 6, 3) := by decide +kernel
theorem dX8_laid_26 : decode cX8_laid 26 = .ok (.bipush (-2), 2) := by decide +kernel
theorem dX8_laid_28 : decode cX8_laid 28 = .ok (.ireturn, 1) := by decide +kernel
theorem dX8_laid_29 : decode cX8_laid 29 = .ok (.aload_n 0, 1) := by decide +kernel
theorem dX8_laid_30 : decode cX8_laid 30 = .ok (.getfield 19, 3) := by decide +kernel
theorem dX8_laid_33 : decode cX8_laid 33 = .ok (.aload_n 0, 1) := by decide +kernel
theorem dX8_laid_34 : decode cX8_laid 34 = .ok (.getfield 10, 3) := by decide +kernel
theorem dX8_laid_37 : decode cX8_laid 37 = .ok (.invokevirtual 82, 3) := by decide +kernel
theorem dX8_laid_40 : decode cX8_laid 40 = .ok (.pop, 1) := by decide +kernel
theorem dX8_laid_41 : decode cX8_laid 41 = .ok (.aload_n 0, 1) := by decide +kernel
theorem dX8_laid_42 : decode cX8_laid 42 = .ok (.getfield 41, 3) := by decide +kernel
theorem dX8_laid_45 : decode cX8_laid 45 = .ok (.invokevirtual 102, 3) := by decide +kernel
theorem dX8_laid_48 : decode cX8_laid 48 = .ok (.aload_n 0, 1) := by decide +kernel
theorem dX8_laid_49 : decode cX8_laid 49 = .ok (.iconst 0, 1) := by decide +kernel
theorem dX8_laid_50 : decode cX8_laid 50 = .ok (.putfield 103, 3) := by decide +kernel
theorem dX8_laid_53 : decode cX8_laid 53 = .ok (.aload_n 0, 1) := by decide +kernel
theorem dX8_laid_54 : decode cX8_laid 54 = .ok (.getfield 52, 3) := by decide +kernel
theorem dX8_laid_57 : decode cX8_laid 57 = .ok (.invokevirtual 107, 3) := by decide +kernel
theorem dX8_laid_60 : decode cX8_laid 60 = .ok (.aload_n 0, 1) := by decide +kernel
theorem dX8_laid_61 : decode cX8_laid 61 = .ok (.getfield 31, 3) := by decide +kernel
theorem dX8_laid_64 : decode cX8_laid 64 = .ok (.invokevirtual 89, 3) := by decide +kernel
theorem dX8_laid_67 : decode cX8_laid 67 = .ok (.aload_n 0, 1) := by decide +kernel
theorem dX8_laid_68 : decode cX8_laid 68 = .ok (.getfield 19, 3) := by decide +kernel
theorem dX8_laid_71 : decode cX8_laid 71 = .ok (.invokevirtual 99, 3) := by decide +kernel
theorem dX8_laid_74 : decode cX8_laid 74 = .ok (.ireturn, 1) := by decide +kernel
theorem dX8_cell_0 : decode cX8_cell 0 = .ok (.aload_n 0, 1) := by decide +kernel
theorem dX8_cell_1 : decode cX8_cell 1 = .ok (.iload_n 1, 1) := by decide +kernel
theorem dX8_cell_2 : decode cX8_cell 2 = .ok (.invokevirtual 108, 3) := by decide +kernel
theorem dX8_cell_5 : decode cX8_cell 5 = .ok (.ifCond .ne 5, 3) := by decide +kernel
theorem dX8_cell_8 : decode cX8_cell 8 = .ok (.iconst (-1), 1) := by decide +kernel
theorem dX8_cell_9 : decode cX8_cell 9 = .ok (.ireturn, 1) := by decide +kernel
theorem dX8_cell_10 : decode cX8_cell 10 = .ok (.iload_n 2, 1) := by decide +kernel
theorem dX8_cell_11 : decode cX8_cell 11 = .ok (.tableswitch 52 0 2 #[25, 34, 43], 25) := by decide +kernel
theorem dX8_cell_36 : decode cX8_cell 36 = .ok (.aload_n 0, 1) := by decide +kernel
theorem dX8_cell_37 : decode cX8_cell 37 = .ok (.getfield 31, 3) := by decide +kernel
theorem dX8_cell_40 : decode cX8_cell 40 = .ok (.iload_n 1, 1) := by decide +kernel
theorem dX8_cell_41 : decode cX8_cell 41 = .ok (.invokevirtual 111, 3) := by decide +kernel
theorem dX8_cell_44 : decode cX8_cell 44 = .ok (.ireturn, 1) := by decide +kernel
theorem dX8_cell_45 : decode cX8_cell 45 = .ok (.aload_n 0, 1) := by decide +kernel
theorem dX8_cell_46 : decode cX8_cell 46 = .ok (.getfield 31, 3) := by decide +kernel
theorem dX8_cell_49 : decode cX8_cell 49 = .ok (.iload_n 1, 1) := by decide +kernel
theorem dX8_cell_50 : decode cX8_cell 50 = .ok (.invokevirtual 115, 3) := by decide +kernel
theorem dX8_cell_53 : decode cX8_cell 53 = .ok (.ireturn, 1) := by decide +kernel
theorem dX8_cell_54 : decode cX8_cell 54 = .ok (.aload_n 0, 1) := by decide +kernel
theorem dX8_cell_55 : decode cX8_cell 55 = .ok (.getfield 31, 3) := by decide +kernel
theorem dX8_cell_58 : decode cX8_cell 58 = .ok (.iload_n 1, 1) := by decide +kernel
theorem dX8_cell_59 : decode cX8_cell 59 = .ok (.invokevirtual 118, 3) := by decide +kernel
theorem dX8_cell_62 : decode cX8_cell 62 = .ok (.ireturn, 1) := by decide +kernel
theorem dX8_cell_63 : decode cX8_cell 63 = .ok (.iconst (-1), 1) := by decide +kernel
theorem dX8_cell_64 : decode cX8_cell 64 = .ok (.ireturn, 1) := by decide +kernel
theorem dX8_lake_0 : decode cX8_lake 0 = .ok (.iload_n 1, 1) := by decide +kernel
theorem dX8_lake_1 : decode cX8_lake 1 = .ok (.tableswitch 75 0 4 #[35, 43, 51, 59, 67], 35) := by decide +kernel
theorem dX8_lake_36 : decode cX8_lake 36 = .ok (.aload_n 0, 1) := by decide +kernel
theorem dX8_lake_37 : decode cX8_lake 37 = .ok (.getfield 31, 3) := by decide +kernel
theorem dX8_lake_40 : decode cX8_lake 40 = .ok (.invokevirtual 121, 3) := by decide +kernel
theorem dX8_lake_43 : decode cX8_lake 43 = .ok (.ireturn, 1) := by decide +kernel
theorem dX8_lake_44 : decode cX8_lake 44 = .ok (.aload_n 0, 1) := by decide +kernel
theorem dX8_lake_45 : decode cX8_lake 45 = .ok (.getfield 31, 3) := by decide +kernel
theorem dX8_lake_48 : decode cX8_lake 48 = .ok (.invokevirtual 124, 3) := by decide +kernel
theorem dX8_lake_51 : decode cX8_lake 51 = .ok (.ireturn, 1) := by decide +kernel
theorem dX8_lake_52 : decode cX8_lake 52 = .ok (.aload_n 0, 1) := by decide +kernel
theorem dX8_lake_53 : decode cX8_lake 53 = .ok (.getfield 31, 3) := by decide +kernel
theorem dX8_lake_56 : decode cX8_lake 56 = .ok (.invokevirtual 127, 3) := by decide +kernel
theorem dX8_lake_59 : decode cX8_lake 59 = .ok (.ireturn, 1) := by decide +kernel
theorem dX8_lake_60 : decode cX8_lake 60 = .ok (.aload_n 0, 1) := by decide +kernel
theorem dX8_lake_61 : decode cX8_lake 61 = .ok (.getfield 31, 3) := by decide +kernel
theorem dX8_lake_64 : decode cX8_lake 64 = .ok (.invokevirtual 130, 3) := by decide +kernel
theorem dX8_lake_67 : decode cX8_lake 67 = .ok (.ireturn, 1) := by decide +kernel
theorem dX8_lake_68 : decode cX8_lake 68 = .ok (.aload_n 0, 1) := by decide +kernel
theorem dX8_lake_69 : decode cX8_lake 69 = .ok (.getfield 31, 3) := by decide +kernel
theorem dX8_lake_72 : decode cX8_lake 72 = .ok (.invokevirtual 133, 3) := by decide +kernel
theorem dX8_lake_75 : decode cX8_lake 75 = .ok (.ireturn, 1) := by decide +kernel
theorem dX8_lake_76 : decode cX8_lake 76 = .ok (.iconst (-1), 1) := by decide +kernel
theorem dX8_lake_77 : decode cX8_lake 77 = .ok (.ireturn, 1) := by decide +kernel
theorem dX8_edge_0 : decode cX8_edge 0 = .ok (.iload_n 1, 1) := by decide +kernel
theorem dX8_edge_1 : decode cX8_edge 1 = .ok (.lookupswitch 43 #[(0, 27), (1, 35)], 27) := by decide +kernel
theorem dX8_edge_28 : decode cX8_edge 28 = .ok (.aload_n 0, 1) := by decide +kernel
theorem dX8_edge_29 : decode cX8_edge 29 = .ok (.getfield 31, 3) := by decide +kernel
theorem dX8_edge_32 : decode cX8_edge 32 = .ok (.invokevirtual 136, 3) := by decide +kernel
theorem dX8_edge_35 : decode cX8_edge 35 = .ok (.ireturn, 1) := by decide +kernel
theorem dX8_edge_36 : decode cX8_edge 36 = .ok (.aload_n 0, 1) := by decide +kernel
theorem dX8_edge_37 : decode cX8_edge 37 = .ok (.getfield 31, 3) := by decide +kernel
theorem dX8_edge_40 : decode cX8_edge 40 = .ok (.invokevirtual 139, 3) := by decide +kernel
theorem dX8_edge_43 : decode cX8_edge 43 = .ok (.ireturn, 1) := by decide +kernel
theorem dX8_edge_44 : decode cX8_edge 44 = .ok (.iconst (-1), 1) := by decide +kernel
theorem dX8_edge_45 : decode cX8_edge 45 = .ok (.ireturn, 1) := by decide +kernel
theorem dX8_comes_0 : decode cX8_comes 0 = .ok (.iload_n 1, 1) := by decide +kernel
theorem dX8_comes_1 : decode cX8_comes 1 = .ok (.iconst 1, 1) := by decide +kernel
theorem dX8_comes_2 : decode cX8_comes 2 = .ok (.sipush 999, 3) := by decide +kernel
theorem dX8_comes_5 : decode cX8_comes 5 = .ok (.invokestatic 92, 3) := by decide +kernel
theorem dX8_comes_8 : decode cX8_comes 8 = .ok (.ifCond .eq 17, 3) := by decide +kernel
theorem dX8_comes_11 : decode cX8_comes 11 = .ok (.aload_n 0, 1) := by decide +kernel
theorem dX8_comes_12 : decode cX8_comes 12 = .ok (.getfield 19, 3) := by decide +kernel
theorem dX8_comes_15 : decode cX8_comes 15 = .ok (.invokevirtual 142, 3) := by decide +kernel
theorem dX8_comes_18 : decode cX8_comes 18 = .ok (.iload_n 1, 1) := by decide +kernel
theorem dX8_comes_19 : decode cX8_comes 19 = .ok (.invokevirtual 146, 3) := by decide +kernel
theorem dX8_comes_22 : decode cX8_comes 22 = .ok (.goto 4, 3) := by decide +kernel
theorem dX8_comes_25 : decode cX8_comes 25 = .ok (.iconst (-1), 1) := by decide +kernel
theorem dX8_comes_26 : decode cX8_comes 26 = .ok (.ireturn, 1) := by decide +kernel
theorem dX8_put_0 : decode cX8_put 0 = .ok (.aload_n 0, 1) := by decide +kernel
theorem dX8_put_1 : decode cX8_put 1 = .ok (.iload_n 1, 1) := by decide +kernel
theorem dX8_put_2 : decode cX8_put 2 = .ok (.invokevirtual 108, 3) := by decide +kernel
theorem dX8_put_5 : decode cX8_put 5 = .ok (.ifCond .eq 20, 3) := by decide +kernel
theorem dX8_put_8 : decode cX8_put 8 = .ok (.iload_n 2, 1) := by decide +kernel
theorem dX8_put_9 : decode cX8_put 9 = .ok (.invokestatic 151, 3) := by decide +kernel
theorem dX8_put_12 : decode cX8_put 12 = .ok (.ifCond .eq 13, 3) := by decide +kernel
theorem dX8_put_15 : decode cX8_put 15 = .ok (.iload_n 3, 1) := by decide +kernel
theorem dX8_put_16 : decode cX8_put 16 = .ok (.iconst 1, 1) := by decide +kernel
theorem dX8_put_17 : decode cX8_put 17 = .ok (.bipush 9, 2) := by decide +kernel
theorem dX8_put_19 : decode cX8_put 19 = .ok (.invokestatic 92, 3) := by decide +kernel
theorem dX8_put_22 : decode cX8_put 22 = .ok (.ifCond .ne 5, 3) := by decide +kernel
theorem dX8_put_25 : decode cX8_put 25 = .ok (.iconst (-1), 1) := by decide +kernel
theorem dX8_put_26 : decode cX8_put 26 = .ok (.ireturn, 1) := by decide +kernel
theorem dX8_put_27 : decode cX8_put 27 = .ok (.aload_n 0, 1) := by decide +kernel
theorem dX8_put_28 : decode cX8_put 28 = .ok (.getfield 31, 3) := by decide +kernel
theorem dX8_put_31 : decode cX8_put 31 = .ok (.iload_n 1, 1) := by decide +kernel
theorem dX8_put_32 : decode cX8_put 32 = .ok (.iload_n 3, 1) := by decide +kernel
theorem dX8_put_33 : decode cX8_put 33 = .ok (.invokevirtual 154, 3) := by decide +kernel
theorem dX8_put_36 : decode cX8_put 36 = .ok (.ifCond .ne 6, 3) := by decide +kernel
theorem dX8_put_39 : decode cX8_put 39 = .ok (.bipush (-2), 2) := by decide +kernel
theorem dX8_put_41 : decode cX8_put 41 = .ok (.ireturn, 1) := by decide +kernel
theorem dX8_put_42 : decode cX8_put 42 = .ok (.aload_n 0, 1) := by decide +kernel
theorem dX8_put_43 : decode cX8_put 43 = .ok (.getfield 41, 3) := by decide +kernel
theorem dX8_put_46 : decode cX8_put 46 = .ok (.iconst 0, 1) := by decide +kernel
theorem dX8_put_47 : decode cX8_put 47 = .ok (.iload_n 1, 1) := by decide +kernel
theorem dX8_put_48 : decode cX8_put 48 = .ok (.iload_n 2, 1) := by decide +kernel
theorem dX8_put_49 : decode cX8_put 49 = .ok (.iload_n 3, 1) := by decide +kernel
theorem dX8_put_50 : decode cX8_put 50 = .ok (.invokevirtual 158, 3) := by decide +kernel
theorem dX8_put_53 : decode cX8_put 53 = .ok (.ifCond .ne 6, 3) := by decide +kernel
theorem dX8_put_56 : decode cX8_put 56 = .ok (.bipush (-3), 2) := by decide +kernel
theorem dX8_put_58 : decode cX8_put 58 = .ok (.ireturn, 1) := by decide +kernel
theorem dX8_put_59 : decode cX8_put 59 = .ok (.aload_n 0, 1) := by decide +kernel
theorem dX8_put_60 : decode cX8_put 60 = .ok (.getfield 31, 3) := by decide +kernel
theorem dX8_put_63 : decode cX8_put 63 = .ok (.iload_n 1, 1) := by decide +kernel
theorem dX8_put_64 : decode cX8_put 64 = .ok (.iload_n 2, 1) := by decide +kernel
theorem dX8_put_65 : decode cX8_put 65 = .ok (.iload_n 3, 1) := by decide +kernel
theorem dX8_put_66 : decode cX8_put 66 = .ok (.invokevirtual 161, 3) := by decide +kernel
theorem dX8_put_69 : decode cX8_put 69 = .ok (.aload_n 0, 1) := by decide +kernel
theorem dX8_put_70 : decode cX8_put 70 = .ok (.getfield 31, 3) := by decide +kernel
theorem dX8_put_73 : decode cX8_put 73 = .ok (.iload_n 1, 1) := by decide +kernel
theorem dX8_put_74 : decode cX8_put 74 = .ok (.invokevirtual 111, 3) := by decide +kernel
theorem dX8_put_77 : decode cX8_put 77 = .ok (.ireturn, 1) := by decide +kernel
theorem dX8_dig_0 : decode cX8_dig 0 = .ok (.aload_n 0, 1) := by decide +kernel
theorem dX8_dig_1 : decode cX8_dig 1 = .ok (.iload_n 1, 1) := by decide +kernel
theorem dX8_dig_2 : decode cX8_dig 2 = .ok (.invokevirtual 108, 3) := by decide +kernel
theorem dX8_dig_5 : decode cX8_dig 5 = .ok (.ifCond .eq 13, 3) := by decide +kernel
theorem dX8_dig_8 : decode cX8_dig 8 = .ok (.iload_n 2, 1) := by decide +kernel
theorem dX8_dig_9 : decode cX8_dig 9 = .ok (.iconst 1, 1) := by decide +kernel
theorem dX8_dig_10 : decode cX8_dig 10 = .ok (.bipush 9, 2) := by decide +kernel
theorem dX8_dig_12 : decode cX8_dig 12 = .ok (.invokestatic 92, 3) := by decide +kernel
theorem dX8_dig_15 : decode cX8_dig 15 = .ok (.ifCond .ne 5, 3) := by decide +kernel
theorem dX8_dig_18 : decode cX8_dig 18 = .ok (.iconst (-1), 1) := by decide +kernel
theorem dX8_dig_19 : decode cX8_dig 19 = .ok (.ireturn, 1) := by decide +kernel
theorem dX8_dig_20 : decode cX8_dig 20 = .ok (.aload_n 0, 1) := by decide +kernel
theorem dX8_dig_21 : decode cX8_dig 21 = .ok (.getfield 31, 3) := by decide +kernel
theorem dX8_dig_24 : decode cX8_dig 24 = .ok (.iload_n 1, 1) := by decide +kernel
theorem dX8_dig_25 : decode cX8_dig 25 = .ok (.iload_n 2, 1) := by decide +kernel
theorem dX8_dig_26 : decode cX8_dig 26 = .ok (.invokevirtual 165, 3) := by decide +kernel
theorem dX8_dig_29 : decode cX8_dig 29 = .ok (.ifCond .ne 6, 3) := by decide +kernel
theorem dX8_dig_32 : decode cX8_dig 32 = .ok (.bipush (-2), 2) := by decide +kernel
theorem dX8_dig_34 : decode cX8_dig 34 = .ok (.ireturn, 1) := by decide +kernel
theorem dX8_dig_35 : decode cX8_dig 35 = .ok (.aload_n 0, 1) := by decide +kernel
theorem dX8_dig_36 : decode cX8_dig 36 = .ok (.getfield 41, 3) := by decide +kernel
theorem dX8_dig_39 : decode cX8_dig 39 = .ok (.iconst 1, 1) := by decide +kernel
theorem dX8_dig_40 : decode cX8_dig 40 = .ok (.iload_n 1, 1) := by decide +kernel
theorem dX8_dig_41 : decode cX8_dig 41 = .ok (.iconst 0, 1) := by decide +kernel
theorem dX8_dig_42 : decode cX8_dig 42 = .ok (.iload_n 2, 1) := by decide +kernel
theorem dX8_dig_43 : decode cX8_dig 43 = .ok (.invokevirtual 158, 3) := by decide +kernel
theorem dX8_dig_46 : decode cX8_dig 46 = .ok (.ifCond .ne 6, 3) := by decide +kernel
theorem dX8_dig_49 : decode cX8_dig 49 = .ok (.bipush (-3), 2) := by decide +kernel
theorem dX8_dig_51 : decode cX8_dig 51 = .ok (.ireturn, 1) := by decide +kernel
theorem dX8_dig_52 : decode cX8_dig 52 = .ok (.aload_n 0, 1) := by decide +kernel
theorem dX8_dig_53 : decode cX8_dig 53 = .ok (.getfield 31, 3) := by decide +kernel
theorem dX8_dig_56 : decode cX8_dig 56 = .ok (.iload_n 1, 1) := by decide +kernel
theorem dX8_dig_57 : decode cX8_dig 57 = .ok (.iload_n 2, 1) := by decide +kernel
theorem dX8_dig_58 : decode cX8_dig 58 = .ok (.invokevirtual 168, 3) := by decide +kernel
theorem dX8_dig_61 : decode cX8_dig 61 = .ok (.aload_n 0, 1) := by decide +kernel
theorem dX8_dig_62 : decode cX8_dig 62 = .ok (.getfield 31, 3) := by decide +kernel
theorem dX8_dig_65 : decode cX8_dig 65 = .ok (.iload_n 1, 1) := by decide +kernel
theorem dX8_dig_66 : decode cX8_dig 66 = .ok (.invokevirtual 111, 3) := by decide +kernel
theorem dX8_dig_69 : decode cX8_dig 69 = .ok (.ireturn, 1) := by decide +kernel
theorem dX8_pass_0 : decode cX8_pass 0 = .ok (.iload_n 1, 1) := by decide +kernel
theorem dX8_pass_1 : decode cX8_pass 1 = .ok (.iconst 1, 1) := by decide +kernel
theorem dX8_pass_2 : decode cX8_pass 2 = .ok (.bipush 60, 2) := by decide +kernel
theorem dX8_pass_4 : decode cX8_pass 4 = .ok (.invokestatic 92, 3) := by decide +kernel
theorem dX8_pass_7 : decode cX8_pass 7 = .ok (.ifCond .ne 5, 3) := by decide +kernel
theorem dX8_pass_10 : decode cX8_pass 10 = .ok (.iconst (-1), 1) := by decide +kernel
theorem dX8_pass_11 : decode cX8_pass 11 = .ok (.ireturn, 1) := by decide +kernel
theorem dX8_pass_12 : decode cX8_pass 12 = .ok (.aload_n 0, 1) := by decide +kernel
theorem dX8_pass_13 : decode cX8_pass 13 = .ok (.getfield 31, 3) := by decide +kernel
theorem dX8_pass_16 : decode cX8_pass 16 = .ok (.iload_n 1, 1) := by decide +kernel
theorem dX8_pass_17 : decode cX8_pass 17 = .ok (.invokevirtual 172, 3) := by decide +kernel
theorem dX8_pass_20 : decode cX8_pass 20 = .ok (.ifCond .ne 6, 3) := by decide +kernel
theorem dX8_pass_23 : decode cX8_pass 23 = .ok (.bipush (-2), 2) := by decide +kernel
theorem dX8_pass_25 : decode cX8_pass 25 = .ok (.ireturn, 1) := by decide +kernel
theorem dX8_pass_26 : decode cX8_pass 26 = .ok (.aload_n 0, 1) := by decide +kernel
theorem dX8_pass_27 : decode cX8_pass 27 = .ok (.getfield 41, 3) := by decide +kernel
theorem dX8_pass_30 : decode cX8_pass 30 = .ok (.iconst 2, 1) := by decide +kernel
theorem dX8_pass_31 : decode cX8_pass 31 = .ok (.iconst 0, 1) := by decide +kernel
theorem dX8_pass_32 : decode cX8_pass 32 = .ok (.iconst 0, 1) := by decide +kernel
theorem dX8_pass_33 : decode cX8_pass 33 = .ok (.iload_n 1, 1) := by decide +kernel
theorem dX8_pass_34 : decode cX8_pass 34 = .ok (.invokevirtual 158, 3) := by decide +kernel
theorem dX8_pass_37 : decode cX8_pass 37 = .ok (.ifCond .ne 6, 3) := by decide +kernel
theorem dX8_pass_40 : decode cX8_pass 40 = .ok (.bipush (-3), 2) := by decide +kernel
theorem dX8_pass_42 : decode cX8_pass 42 = .ok (.ireturn, 1) := by decide +kernel
theorem dX8_pass_43 : decode cX8_pass 43 = .ok (.aload_n 0, 1) := by decide +kernel
theorem dX8_pass_44 : decode cX8_pass 44 = .ok (.getfield 31, 3) := by decide +kernel
theorem dX8_pass_47 : decode cX8_pass 47 = .ok (.iload_n 1, 1) := by decide +kernel
theorem dX8_pass_48 : decode cX8_pass 48 = .ok (.iconst 0, 1) := by decide +kernel
theorem dX8_pass_49 : decode cX8_pass 49 = .ok (.invokevirtual 175, 3) := by decide +kernel
theorem dX8_pass_52 : decode cX8_pass 52 = .ok (.aload_n 0, 1) := by decide +kernel
theorem dX8_pass_53 : decode cX8_pass 53 = .ok (.getfield 31, 3) := by decide +kernel
theorem dX8_pass_56 : decode cX8_pass 56 = .ok (.invokevirtual 121, 3) := by decide +kernel
theorem dX8_pass_59 : decode cX8_pass 59 = .ok (.ireturn, 1) := by decide +kernel
theorem dX8_undo_0 : decode cX8_undo 0 = .ok (.aload_n 0, 1) := by decide +kernel
theorem dX8_undo_1 : decode cX8_undo 1 = .ok (.getfield 41, 3) := by decide +kernel
theorem dX8_undo_4 : decode cX8_undo 4 = .ok (.invokevirtual 178, 3) := by decide +kernel
theorem dX8_undo_7 : decode cX8_undo 7 = .ok (.ifCond .ne 6, 3) := by decide +kernel
theorem dX8_undo_10 : decode cX8_undo 10 = .ok (.bipush (-2), 2) := by decide +kernel
theorem dX8_undo_12 : decode cX8_undo 12 = .ok (.ireturn, 1) := by decide +kernel
theorem dX8_undo_13 : decode cX8_undo 13 = .ok (.aload_n 0, 1) := by decide +kernel
theorem dX8_undo_14 : decode cX8_undo 14 = .ok (.getfield 41, 3) := by decide +kernel
theorem dX8_undo_17 : decode cX8_undo 17 = .ok (.invokevirtual 179, 3) := by decide +kernel
theorem dX8_undo_20 : decode cX8_undo 20 = .ok (.aload_n 0, 1) := by decide +kernel
theorem dX8_undo_21 : decode cX8_undo 21 = .ok (.getfield 41, 3) := by decide +kernel
theorem dX8_undo_24 : decode cX8_undo 24 = .ok (.bipush (-4), 2) := by decide +kernel
theorem dX8_undo_26 : decode cX8_undo 26 = .ok (.aload_n 0, 1) := by decide +kernel
theorem dX8_undo_27 : decode cX8_undo 27 = .ok (.getfield 31, 3) := by decide +kernel
theorem dX8_undo_30 : decode cX8_undo 30 = .ok (.invokevirtual 182, 3) := by decide +kernel
theorem dX8_undo_33 : decode cX8_undo 33 = .ok (.aload_n 0, 1) := by decide +kernel
theorem dX8_undo_34 : decode cX8_undo 34 = .ok (.getfield 41, 3) := by decide +kernel
theorem dX8_undo_37 : decode cX8_undo 37 = .ok (.invokevirtual 178, 3) := by decide +kernel
theorem dX8_undo_40 : decode cX8_undo 40 = .ok (.ireturn, 1) := by decide +kernel
theorem dX8_behind_0 : decode cX8_behind 0 = .ok (.iload_n 1, 1) := by decide +kernel
theorem dX8_behind_1 : decode cX8_behind 1 = .ok (.iconst 0, 1) := by decide +kernel
theorem dX8_behind_2 : decode cX8_behind 2 = .ok (.sipush 200, 3) := by decide +kernel
theorem dX8_behind_5 : decode cX8_behind 5 = .ok (.invokestatic 92, 3) := by decide +kernel
theorem dX8_behind_8 : decode cX8_behind 8 = .ok (.ifCond .eq 12, 3) := by decide +kernel
theorem dX8_behind_11 : decode cX8_behind 11 = .ok (.iload_n 2, 1) := by decide +kernel
theorem dX8_behind_12 : decode cX8_behind 12 = .ok (.iconst 0, 1) := by decide +kernel
theorem dX8_behind_13 : decode cX8_behind 13 = .ok (.iconst 2, 1) := by decide +kernel
theorem dX8_behind_14 : decode cX8_behind 14 = .ok (.invokestatic 92, 3) := by decide +kernel
theorem dX8_behind_17 : decode cX8_behind 17 = .ok (.ifCond .ne 5, 3) := by decide +kernel
theorem dX8_behind_20 : decode cX8_behind 20 = .ok (.iconst (-1), 1) := by decide +kernel
theorem dX8_behind_21 : decode cX8_behind 21 = .ok (.ireturn, 1) := by decide +kernel
theorem dX8_behind_22 : decode cX8_behind 22 = .ok (.aload_n 0, 1) := by decide +kernel
theorem dX8_behind_23 : decode cX8_behind 23 = .ok (.getfield 35, 3) := by decide +kernel
theorem dX8_behind_26 : decode cX8_behind 26 = .ok (.aload_n 0, 1) := by decide +kernel
theorem dX8_behind_27 : decode cX8_behind 27 = .ok (.getfield 31, 3) := by decide +kernel
theorem dX8_behind_30 : decode cX8_behind 30 = .ok (.invokevirtual 186, 3) := by decide +kernel
theorem dX8_behind_33 : decode cX8_behind 33 = .ok (.aload_n 0, 1) := by decide +kernel
theorem dX8_behind_34 : decode cX8_behind 34 = .ok (.getfield 35, 3) := by decide +kernel
theorem dX8_behind_37 : decode cX8_behind 37 = .ok (.iload_n 1, 1) := by decide +kernel
theorem dX8_behind_38 : decode cX8_behind 38 = .ok (.iconst 0, 1) := by decide +kernel
theorem dX8_behind_39 : decode cX8_behind 39 = .ok (.invokevirtual 175, 3) := by decide +kernel
theorem dX8_behind_42 : decode cX8_behind 42 = .ok (.iload_n 2, 1) := by decide +kernel
theorem dX8_behind_43 : decode cX8_behind 43 = .ok (.lookupswitch 41 #[(0, 25), (1, 33)], 25) := by decide +kernel
theorem dX8_behind_68 : decode cX8_behind 68 = .ok (.aload_n 0, 1) := by decide +kernel
theorem dX8_behind_69 : decode cX8_behind 69 = .ok (.getfield 35, 3) := by decide +kernel
theorem dX8_behind_72 : decode cX8_behind 72 = .ok (.invokevirtual 121, 3) := by decide +kernel
theorem dX8_behind_75 : decode cX8_behind 75 = .ok (.ireturn, 1) := by decide +kernel
theorem dX8_behind_76 : decode cX8_behind 76 = .ok (.aload_n 0, 1) := by decide +kernel
theorem dX8_behind_77 : decode cX8_behind 77 = .ok (.getfield 35, 3) := by decide +kernel
theorem dX8_behind_80 : decode cX8_behind 80 = .ok (.invokevirtual 124, 3) := by decide +kernel
theorem dX8_behind_83 : decode cX8_behind 83 = .ok (.ireturn, 1) := by decide +kernel
theorem dX8_behind_84 : decode cX8_behind 84 = .ok (.aload_n 0, 1) := by decide +kernel
theorem dX8_behind_85 : decode cX8_behind 85 = .ok (.getfield 35, 3) := by decide +kernel
theorem dX8_behind_88 : decode cX8_behind 88 = .ok (.invokevirtual 130, 3) := by decide +kernel
theorem dX8_behind_91 : decode cX8_behind 91 = .ok (.aload_n 0, 1) := by decide +kernel
theorem dX8_behind_92 : decode cX8_behind 92 = .ok (.getfield 31, 3) := by decide +kernel
theorem dX8_behind_95 : decode cX8_behind 95 = .ok (.invokevirtual 130, 3) := by decide +kernel
theorem dX8_behind_98 : decode cX8_behind 98 = .ok (.isub, 1) := by decide +kernel
theorem dX8_behind_99 : decode cX8_behind 99 = .ok (.ireturn, 1) := by decide +kernel
theorem dX8_worn_0 : decode cX8_worn 0 = .ok (.aload_n 0, 1) := by decide +kernel
theorem dX8_worn_1 : decode cX8_worn 1 = .ok (.iload_n 1, 1) := by decide +kernel
theorem dX8_worn_2 : decode cX8_worn 2 = .ok (.invokevirtual 108, 3) := by decide +kernel
theorem dX8_worn_5 : decode cX8_worn 5 = .ok (.ifCond .eq 14, 3) := by decide +kernel
theorem dX8_worn_8 : decode cX8_worn 8 = .ok (.iload_n 2, 1) := by decide +kernel
theorem dX8_worn_9 : decode cX8_worn 9 = .ok (.iconst 0, 1) := by decide +kernel
theorem dX8_worn_10 : decode cX8_worn 10 = .ok (.sipush 200, 3) := by decide +kernel
theorem dX8_worn_13 : decode cX8_worn 13 = .ok (.invokestatic 92, 3) := by decide +kernel
theorem dX8_worn_16 : decode cX8_worn 16 = .ok (.ifCond .ne 5, 3) := by decide +kernel
theorem dX8_worn_19 : decode cX8_worn 19 = .ok (.iconst (-1), 1) := by decide +kernel
theorem dX8_worn_20 : decode cX8_worn 20 = .ok (.ireturn, 1) := by decide +kernel
theorem dX8_worn_21 : decode cX8_worn 21 = .ok (.aload_n 0, 1) := by decide +kernel
theorem dX8_worn_22 : decode cX8_worn 22 = .ok (.getfield 35, 3) := by decide +kernel
theorem dX8_worn_25 : decode cX8_worn 25 = .ok (.aload_n 0, 1) := by decide +kernel
theorem dX8_worn_26 : decode cX8_worn 26 = .ok (.getfield 31, 3) := by decide +kernel
theorem dX8_worn_29 : decode cX8_worn 29 = .ok (.invokevirtual 186, 3) := by decide +kernel
theorem dX8_worn_32 : decode cX8_worn 32 = .ok (.aload_n 0, 1) := by decide +kernel
theorem dX8_worn_33 : decode cX8_worn 33 = .ok (.getfield 35, 3) := by decide +kernel
theorem dX8_worn_36 : decode cX8_worn 36 = .ok (.iload_n 2, 1) := by decide +kernel
theorem dX8_worn_37 : decode cX8_worn 37 = .ok (.iconst 0, 1) := by decide +kernel
theorem dX8_worn_38 : decode cX8_worn 38 = .ok (.invokevirtual 175, 3) := by decide +kernel
theorem dX8_worn_41 : decode cX8_worn 41 = .ok (.aload_n 0, 1) := by decide +kernel
theorem dX8_worn_42 : decode cX8_worn 42 = .ok (.getfield 35, 3) := by decide +kernel
theorem dX8_worn_45 : decode cX8_worn 45 = .ok (.iload_n 1, 1) := by decide +kernel
theorem dX8_worn_46 : decode cX8_worn 46 = .ok (.invokevirtual 111, 3) := by decide +kernel
theorem dX8_worn_49 : decode cX8_worn 49 = .ok (.ireturn, 1) := by decide +kernel
theorem dX8_over_0 : decode cX8_over 0 = .ok (.iload_n 1, 1) := by decide +kernel
theorem dX8_over_1 : decode cX8_over 1 = .ok (.iconst 0, 1) := by decide +kernel
theorem dX8_over_2 : decode cX8_over 2 = .ok (.iconst 1, 1) := by decide +kernel
theorem dX8_over_3 : decode cX8_over 3 = .ok (.invokestatic 92, 3) := by decide +kernel
theorem dX8_over_6 : decode cX8_over 6 = .ok (.ifCond .ne 5, 3) := by decide +kernel
theorem dX8_over_9 : decode cX8_over 9 = .ok (.iconst (-1), 1) := by decide +kernel
theorem dX8_over_10 : decode cX8_over 10 = .ok (.ireturn, 1) := by decide +kernel
theorem dX8_over_11 : decode cX8_over 11 = .ok (.aload_n 0, 1) := by decide +kernel
theorem dX8_over_12 : decode cX8_over 12 = .ok (.getfield 35, 3) := by decide +kernel
theorem dX8_over_15 : decode cX8_over 15 = .ok (.aload_n 0, 1) := by decide +kernel
theorem dX8_over_16 : decode cX8_over 16 = .ok (.getfield 31, 3) := by decide +kernel
theorem dX8_over_19 : decode cX8_over 19 = .ok (.invokevirtual 186, 3) := by decide +kernel
theorem dX8_over_22 : decode cX8_over 22 = .ok (.aload_n 0, 1) := by decide +kernel
theorem dX8_over_23 : decode cX8_over 23 = .ok (.getfield 35, 3) := by decide +kernel
theorem dX8_over_26 : decode cX8_over 26 = .ok (.invokevirtual 190, 3) := by decide +kernel
theorem dX8_over_29 : decode cX8_over 29 = .ok (.istore_n 2, 1) := by decide +kernel
theorem dX8_over_30 : decode cX8_over 30 = .ok (.iload_n 2, 1) := by decide +kernel
theorem dX8_over_31 : decode cX8_over 31 = .ok (.bipush (-4), 2) := by decide +kernel
theorem dX8_over_33 : decode cX8_over 33 = .ok (.if_icmp .eq 7, 3) := by decide +kernel
theorem dX8_over_36 : decode cX8_over 36 = .ok (.iload_n 1, 1) := by decide +kernel
theorem dX8_over_37 : decode cX8_over 37 = .ok (.ifCond .ne 7, 3) := by decide +kernel
theorem dX8_over_40 : decode cX8_over 40 = .ok (.iload_n 2, 1) := by decide +kernel
theorem dX8_over_41 : decode cX8_over 41 = .ok (.goto 10, 3) := by decide +kernel
theorem dX8_over_44 : decode cX8_over 44 = .ok (.aload_n 0, 1) := by decide +kernel
theorem dX8_over_45 : decode cX8_over 45 = .ok (.getfield 35, 3) := by decide +kernel
theorem dX8_over_48 : decode cX8_over 48 = .ok (.invokevirtual 193, 3) := by decide +kernel
theorem dX8_over_51 : decode cX8_over 51 = .ok (.ireturn, 1) := by decide +kernel
theorem dX8_gone_0 : decode cX8_gone 0 = .ok (.iload_n 1, 1) := by decide +kernel
theorem dX8_gone_1 : decode cX8_gone 1 = .ok (.iconst 0, 1) := by decide +kernel
theorem dX8_gone_2 : decode cX8_gone 2 = .ok (.iconst 1, 1) := by decide +kernel
theorem dX8_gone_3 : decode cX8_gone 3 = .ok (.invokestatic 92, 3) := by decide +kernel
theorem dX8_gone_6 : decode cX8_gone 6 = .ok (.ifCond .ne 5, 3) := by decide +kernel
theorem dX8_gone_9 : decode cX8_gone 9 = .ok (.iconst (-1), 1) := by decide +kernel
theorem dX8_gone_10 : decode cX8_gone 10 = .ok (.ireturn, 1) := by decide +kernel
theorem dX8_gone_11 : decode cX8_gone 11 = .ok (.aload_n 0, 1) := by decide +kernel
theorem dX8_gone_12 : decode cX8_gone 12 = .ok (.getfield 35, 3) := by decide +kernel
theorem dX8_gone_15 : decode cX8_gone 15 = .ok (.aload_n 0, 1) := by decide +kernel
theorem dX8_gone_16 : decode cX8_gone 16 = .ok (.getfield 31, 3) := by decide +kernel
theorem dX8_gone_19 : decode cX8_gone 19 = .ok (.invokevirtual 186, 3) := by decide +kernel
theorem dX8_gone_22 : decode cX8_gone 22 = .ok (.aload_n 0, 1) := by decide +kernel
theorem dX8_gone_23 : decode cX8_gone 23 = .ok (.getfield 35, 3) := by decide +kernel
theorem dX8_gone_26 : decode cX8_gone 26 = .ok (.invokevirtual 196, 3) := by decide +kernel
theorem dX8_gone_29 : decode cX8_gone 29 = .ok (.istore_n 2, 1) := by decide +kernel
theorem dX8_gone_30 : decode cX8_gone 30 = .ok (.iload_n 2, 1) := by decide +kernel
theorem dX8_gone_31 : decode cX8_gone 31 = .ok (.bipush (-4), 2) := by decide +kernel
theorem dX8_gone_33 : decode cX8_gone 33 = .ok (.if_icmp .eq 7, 3) := by decide +kernel
theorem dX8_gone_36 : decode cX8_gone 36 = .ok (.iload_n 1, 1) := by decide +kernel
theorem dX8_gone_37 : decode cX8_gone 37 = .ok (.ifCond .ne 7, 3) := by decide +kernel
theorem dX8_gone_40 : decode cX8_gone 40 = .ok (.iload_n 2, 1) := by decide +kernel
theorem dX8_gone_41 : decode cX8_gone 41 = .ok (.goto 10, 3) := by decide +kernel
theorem dX8_gone_44 : decode cX8_gone 44 = .ok (.aload_n 0, 1) := by decide +kernel
theorem dX8_gone_45 : decode cX8_gone 45 = .ok (.getfield 35, 3) := by decide +kernel
theorem dX8_gone_48 : decode cX8_gone 48 = .ok (.invokevirtual 199, 3) := by decide +kernel
theorem dX8_gone_51 : decode cX8_gone 51 = .ok (.ireturn, 1) := by decide +kernel
theorem dX8_best_0 : decode cX8_best 0 = .ok (.iload_n 1, 1) := by decide +kernel
theorem dX8_best_1 : decode cX8_best 1 = .ok (.iconst 1, 1) := by decide +kernel
theorem dX8_best_2 : decode cX8_best 2 = .ok (.iconst 5, 1) := by decide +kernel
theorem dX8_best_3 : decode cX8_best 3 = .ok (.invokestatic 92, 3) := by decide +kernel
theorem dX8_best_6 : decode cX8_best 6 = .ok (.ifCond .eq 38, 3) := by decide +kernel
theorem dX8_best_9 : decode cX8_best 9 = .ok (.iload_n 2, 1) := by decide +kernel
theorem dX8_best_10 : decode cX8_best 10 = .ok (.invokestatic 151, 3) := by decide +kernel
theorem dX8_best_13 : decode cX8_best 13 = .ok (.ifCond .eq 31, 3) := by decide +kernel
theorem dX8_best_16 : decode cX8_best 16 = .ok (.iload_n 3, 1) := by decide +kernel
theorem dX8_best_17 : decode cX8_best 17 = .ok (.iconst 1, 1) := by decide +kernel
theorem dX8_best_18 : decode cX8_best 18 = .ok (.bipush 60, 2) := by decide +kernel
theorem dX8_best_20 : decode cX8_best 20 = .ok (.invokestatic 92, 3) := by decide +kernel
theorem dX8_best_23 : decode cX8_best 23 = .ok (.ifCond .eq 21, 3) := by decide +kernel
theorem dX8_best_26 : decode cX8_best 26 = .ok (.iload 4, 2) := by decide +kernel
theorem dX8_best_28 : decode cX8_best 28 = .ok (.iconst (-1), 1) := by decide +kernel
theorem dX8_best_29 : decode cX8_best 29 = .ok (.aload_n 0, 1) := by decide +kernel
theorem dX8_best_30 : decode cX8_best 30 = .ok (.getfield 19, 3) := by decide +kernel
theorem dX8_best_33 : decode cX8_best 33 = .ok (.invokevirtual 99, 3) := by decide +kernel
theorem dX8_best_36 : decode cX8_best 36 = .ok (.iconst 1, 1) := by decide +kernel
theorem dX8_best_37 : decode cX8_best 37 = .ok (.isub, 1) := by decide +kernel
theorem dX8_best_38 : decode cX8_best 38 = .ok (.invokestatic 92, 3) := by decide +kernel
theorem dX8_best_41 : decode cX8_best 41 = .ok (.ifCond .ne 5, 3) := by decide +kernel
theorem dX8_best_44 : decode cX8_best 44 = .ok (.iconst (-1), 1) := by decide +kernel
theorem dX8_best_45 : decode cX8_best 45 = .ok (.ireturn, 1) := by decide +kernel
theorem dX8_best_46 : decode cX8_best 46 = .ok (.aload_n 0, 1) := by decide +kernel
theorem dX8_best_47 : decode cX8_best 47 = .ok (.iload_n 1, 1) := by decide +kernel
theorem dX8_best_48 : decode cX8_best 48 = .ok (.iload_n 2, 1) := by decide +kernel
theorem dX8_best_49 : decode cX8_best 49 = .ok (.iload_n 3, 1) := by decide +kernel
theorem dX8_best_50 : decode cX8_best 50 = .ok (.invokevirtual 202, 3) := by decide +kernel
theorem dX8_best_53 : decode cX8_best 53 = .ok (.istore 5, 2) := by decide +kernel
theorem dX8_best_55 : decode cX8_best 55 = .ok (.iload 5, 2) := by decide +kernel
theorem dX8_best_57 : decode cX8_best 57 = .ok (.bipush (-4), 2) := by decide +kernel
theorem dX8_best_59 : decode cX8_best 59 = .ok (.if_icmp .eq 9, 3) := by decide +kernel
theorem dX8_best_62 : decode cX8_best 62 = .ok (.iload 4, 2) := by decide +kernel
theorem dX8_best_64 : decode cX8_best 64 = .ok (.iconst (-1), 1) := by decide +kernel
theorem dX8_best_65 : decode cX8_best 65 = .ok (.if_icmp .ne 8, 3) := by decide +kernel
theorem dX8_best_68 : decode cX8_best 68 = .ok (.iload 5, 2) := by decide +kernel
theorem dX8_best_70 : decode cX8_best 70 = .ok (.goto 12, 3) := by decide +kernel
theorem dX8_best_73 : decode cX8_best 73 = .ok (.aload_n 0, 1) := by decide +kernel
theorem dX8_best_74 : decode cX8_best 74 = .ok (.getfield 63, 3) := by decide +kernel
theorem dX8_best_77 : decode cX8_best 77 = .ok (.iload 4, 2) := by decide +kernel
theorem dX8_best_79 : decode cX8_best 79 = .ok (.invokevirtual 206, 3) := by decide +kernel
theorem dX8_best_82 : decode cX8_best 82 = .ok (.ireturn, 1) := by decide +kernel
theorem dX8_findBestShares_0 : decode cX8_findBestShares 0 = .ok (.bipush (-4), 2) := by decide +kernel
theorem dX8_findBestShares_2 : decode cX8_findBestShares 2 = .ok (.istore 4, 2) := by decide +kernel
theorem dX8_findBestShares_4 : decode cX8_findBestShares 4 = .ok (.iconst 1, 1) := by decide +kernel
theorem dX8_findBestShares_5 : decode cX8_findBestShares 5 = .ok (.istore 5, 2) := by decide +kernel
theorem dX8_findBestShares_7 : decode cX8_findBestShares 7 = .ok (.aload_n 0, 1) := by decide +kernel
theorem dX8_findBestShares_8 : decode cX8_findBestShares 8 = .ok (.getfield 59, 3) := by decide +kernel
theorem dX8_findBestShares_11 : decode cX8_findBestShares 11 = .ok (.iload_n 1, 1) := by decide +kernel
theorem dX8_findBestShares_12 : decode cX8_findBestShares 12 = .ok (.aload_n 0, 1) := by decide +kernel
theorem dX8_findBestShares_13 : decode cX8_findBestShares 13 = .ok (.getfield 19, 3) := by decide +kernel
theorem dX8_findBestShares_16 : decode cX8_findBestShares 16 = .ok (.invokevirtual 99, 3) := by decide +kernel
theorem dX8_findBestShares_19 : decode cX8_findBestShares 19 = .ok (.invokevirtual 209, 3) := by decide +kernel
theorem dX8_findBestShares_22 : decode cX8_findBestShares 22 = .ok (.iconst 0, 1) := by decide +kernel
theorem dX8_findBestShares_23 : decode cX8_findBestShares 23 = .ok (.istore 6, 2) := by decide +kernel
theorem dX8_findBestShares_25 : decode cX8_findBestShares 25 = .ok (.iload 6, 2) := by decide +kernel
theorem dX8_findBestShares_27 : decode cX8_findBestShares 27 = .ok (.sipush 1000, 3) := by decide +kernel
theorem dX8_findBestShares_30 : decode cX8_findBestShares 30 = .ok (.if_icmp .ge 53, 3) := by decide +kernel
theorem dX8_findBestShares_33 : decode cX8_findBestShares 33 = .ok (.iload 5, 2) := by decide +kernel
theorem dX8_findBestShares_35 : decode cX8_findBestShares 35 = .ok (.ifCond .eq 48, 3) := by decide +kernel
theorem dX8_findBestShares_38 : decode cX8_findBestShares 38 = .ok (.aload_n 0, 1) := by decide +kernel
theorem dX8_findBestShares_39 : decode cX8_findBestShares 39 = .ok (.iload_n 2, 1) := by decide +kernel
theorem dX8_findBestShares_40 : decode cX8_findBestShares 40 = .ok (.iload_n 3, 1) := by decide +kernel
theorem dX8_findBestShares_41 : decode cX8_findBestShares 41 = .ok (.invokevirtual 212, 3) := by decide +kernel
theorem dX8_findBestShares_44 : decode cX8_findBestShares 44 = .ok (.istore 7, 2) := by decide +kernel
theorem dX8_findBestShares_46 : decode cX8_findBestShares 46 = .ok (.iload 7, 2) := by decide +kernel
theorem dX8_findBestShares_48 : decode cX8_findBestShares 48 = .ok (.iload 4, 2) := by decide +kernel
theorem dX8_findBestShares_50 : decode cX8_findBestShares 50 = .ok (.if_icmp .le 18, 3) := by decide +kernel
theorem dX8_findBestShares_53 : decode cX8_findBestShares 53 = .ok (.iload 7, 2) := by decide +kernel
theorem dX8_findBestShares_55 : decode cX8_findBestShares 55 = .ok (.istore 4, 2) := by decide +kernel
theorem dX8_findBestShares_57 : decode cX8_findBestShares 57 = .ok (.aload_n 0, 1) := by decide +kernel
theorem dX8_findBestShares_58 : decode cX8_findBestShares 58 = .ok (.getfield 63, 3) := by decide +kernel
theorem dX8_findBestShares_61 : decode cX8_findBestShares 61 = .ok (.aload_n 0, 1) := by decide +kernel
theorem dX8_findBestShares_62 : decode cX8_findBestShares 62 = .ok (.getfield 59, 3) := by decide +kernel
theorem dX8_findBestShares_65 : decode cX8_findBestShares 65 = .ok (.invokevirtual 216, 3) := by decide +kernel
theorem dX8_findBestShares_68 : decode cX8_findBestShares 68 = .ok (.aload_n 0, 1) := by decide +kernel
theorem dX8_findBestShares_69 : decode cX8_findBestShares 69 = .ok (.getfield 59, 3) := by decide +kernel
theorem dX8_findBestShares_72 : decode cX8_findBestShares 72 = .ok (.invokevirtual 219, 3) := by decide +kernel
theorem dX8_findBestShares_75 : decode cX8_findBestShares 75 = .ok (.istore 5, 2) := by decide +kernel
theorem dX8_findBestShares_77 : decode cX8_findBestShares 77 = .ok (.iinc 6 1, 3) := by decide +kernel
theorem dX8_findBestShares_80 : decode cX8_findBestShares 80 = .ok (.goto (-55), 3) := by decide +kernel
theorem dX8_findBestShares_83 : decode cX8_findBestShares 83 = .ok (.iload 4, 2) := by decide +kernel
theorem dX8_findBestShares_85 : decode cX8_findBestShares 85 = .ok (.ireturn, 1) := by decide +kernel
theorem dX8_waterWithShares_0 : decode cX8_waterWithShares 0 = .ok (.aload_n 0, 1) := by decide +kernel
theorem dX8_waterWithShares_1 : decode cX8_waterWithShares 1 = .ok (.getfield 35, 3) := by decide +kernel
theorem dX8_waterWithShares_4 : decode cX8_waterWithShares 4 = .ok (.aload_n 0, 1) := by decide +kernel
theorem dX8_waterWithShares_5 : decode cX8_waterWithShares 5 = .ok (.getfield 31, 3) := by decide +kernel
theorem dX8_waterWithShares_8 : decode cX8_waterWithShares 8 = .ok (.invokevirtual 186, 3) := by decide +kernel
theorem dX8_waterWithShares_11 : decode cX8_waterWithShares 11 = .ok (.iconst 0, 1) := by decide +kernel
theorem dX8_waterWithShares_12 : decode cX8_waterWithShares 12 = .ok (.istore_n 3, 1) := by decide +kernel
theorem dX8_waterWithShares_13 : decode cX8_waterWithShares 13 = .ok (.iload_n 3, 1) := by decide +kernel
theorem dX8_waterWithShares_14 : decode cX8_waterWithShares 14 = .ok (.aload_n 0, 1) := by decide +kernel
theorem dX8_waterWithShares_15 : decode cX8_waterWithShares 15 = .ok (.getfield 19, 3) := by decide +kernel
theorem dX8_waterWithShares_18 : decode cX8_waterWithShares 18 = .ok (.invokevirtual 99, 3) := by decide +kernel
theorem dX8_waterWithShares_21 : decode cX8_waterWithShares 21 = .ok (.if_icmp .ge 51, 3) := by decide +kernel
theorem dX8_waterWithShares_24 : decode cX8_waterWithShares 24 = .ok (.aload_n 0, 1) := by decide +kernel
theorem dX8_waterWithShares_25 : decode cX8_waterWithShares 25 = .ok (.getfield 59, 3) := by decide +kernel
theorem dX8_waterWithShares_28 : decode cX8_waterWithShares 28 = .ok (.iload_n 3, 1) := by decide +kernel
theorem dX8_waterWithShares_29 : decode cX8_waterWithShares 29 = .ok (.invokevirtual 206, 3) := by decide +kernel
theorem dX8_waterWithShares_32 : decode cX8_waterWithShares 32 = .ok (.istore 4, 2) := by decide +kernel
theorem dX8_waterWithShares_34 : decode cX8_waterWithShares 34 = .ok (.iload 4, 2) := by decide +kernel
theorem dX8_waterWithShares_36 : decode cX8_waterWithShares 36 = .ok (.ifCond .le 30, 3) := by decide +kernel
theorem dX8_waterWithShares_39 : decode cX8_waterWithShares 39 = .ok (.aload_n 0, 1) := by decide +kernel
theorem dX8_waterWithShares_40 : decode cX8_waterWithShares 40 = .ok (.getfield 35, 3) := by decide +kernel
theorem dX8_waterWithShares_43 : decode cX8_waterWithShares 43 = .ok (.iload_n 3, 1) := by decide +kernel
theorem dX8_waterWithShares_44 : decode cX8_waterWithShares 44 = .ok (.iload 4, 2) := by decide +kernel
theorem dX8_waterWithShares_46 : decode cX8_waterWithShares 46 = .ok (.invokevirtual 154, 3) := by decide +kernel
theorem dX8_waterWithShares_49 : decode cX8_waterWithShares 49 = .ok (.ifCond .ne 6, 3) := by decide +kernel
theorem dX8_waterWithShares_52 : decode cX8_waterWithShares 52 = .ok (.bipush (-4), 2) := by decide +kernel
theorem dX8_waterWithShares_54 : decode cX8_waterWithShares 54 = .ok (.ireturn, 1) := by decide +kernel
theorem dX8_waterWithShares_55 : decode cX8_waterWithShares 55 = .ok (.aload_n 0, 1) := by decide +kernel
theorem dX8_waterWithShares_56 : decode cX8_waterWithShares 56 = .ok (.getfield 35, 3) := by decide +kernel
theorem dX8_waterWithShares_59 : decode cX8_waterWithShares 59 = .ok (.iload_n 3, 1) := by decide +kernel
theorem dX8_waterWithShares_60 : decode cX8_waterWithShares 60 = .ok (.iload_n 1, 1) := by decide +kernel
theorem dX8_waterWithShares_61 : decode cX8_waterWithShares 61 = .ok (.iload 4, 2) := by decide +kernel
theorem dX8_waterWithShares_63 : decode cX8_waterWithShares 63 = .ok (.invokevirtual 161, 3) := by decide +kernel
theorem dX8_waterWithShares_66 : decode cX8_waterWithShares 66 = .ok (.iinc 3 1, 3) := by decide +kernel
theorem dX8_waterWithShares_69 : decode cX8_waterWithShares 69 = .ok (.goto (-56), 3) := by decide +kernel
theorem dX8_waterWithShares_72 : decode cX8_waterWithShares 72 = .ok (.aload_n 0, 1) := by decide +kernel
theorem dX8_waterWithShares_73 : decode cX8_waterWithShares 73 = .ok (.getfield 35, 3) := by decide +kernel
theorem dX8_waterWithShares_76 : decode cX8_waterWithShares 76 = .ok (.iload_n 2, 1) := by decide +kernel
theorem dX8_waterWithShares_77 : decode cX8_waterWithShares 77 = .ok (.iconst 0, 1) := by decide +kernel
theorem dX8_waterWithShares_78 : decode cX8_waterWithShares 78 = .ok (.invokevirtual 175, 3) := by decide +kernel
theorem dX8_waterWithShares_81 : decode cX8_waterWithShares 81 = .ok (.aload_n 0, 1) := by decide +kernel
theorem dX8_waterWithShares_82 : decode cX8_waterWithShares 82 = .ok (.getfield 35, 3) := by decide +kernel
theorem dX8_waterWithShares_85 : decode cX8_waterWithShares 85 = .ok (.invokevirtual 124, 3) := by decide +kernel
theorem dX8_waterWithShares_88 : decode cX8_waterWithShares 88 = .ok (.ireturn, 1) := by decide +kernel
theorem dX8_gap_0 : decode cX8_gap 0 = .ok (.iload_n 1, 1) := by decide +kernel
theorem dX8_gap_1 : decode cX8_gap 1 = .ok (.iconst 1, 1) := by decide +kernel
theorem dX8_gap_2 : decode cX8_gap 2 = .ok (.bipush 60, 2) := by decide +kernel
theorem dX8_gap_4 : decode cX8_gap 4 = .ok (.invokestatic 92, 3) := by decide +kernel
theorem dX8_gap_7 : decode cX8_gap 7 = .ok (.ifCond .eq 12, 3) := by decide +kernel
theorem dX8_gap_10 : decode cX8_gap 10 = .ok (.iload_n 2, 1) := by decide +kernel
theorem dX8_gap_11 : decode cX8_gap 11 = .ok (.iconst 0, 1) := by decide +kernel
theorem dX8_gap_12 : decode cX8_gap 12 = .ok (.iconst 1, 1) := by decide +kernel
theorem dX8_gap_13 : decode cX8_gap 13 = .ok (.invokestatic 92, 3) := by decide +kernel
theorem dX8_gap_16 : decode cX8_gap 16 = .ok (.ifCond .ne 5, 3) := by decide +kernel
theorem dX8_gap_19 : decode cX8_gap 19 = .ok (.iconst (-1), 1) := by decide +kernel
theorem dX8_gap_20 : decode cX8_gap 20 = .ok (.ireturn, 1) := by decide +kernel
theorem dX8_gap_21 : decode cX8_gap 21 = .ok (.bipush 40, 2) := by decide +kernel
theorem dX8_gap_23 : decode cX8_gap 23 = .ok (.istore_n 3, 1) := by decide +kernel
theorem dX8_gap_24 : decode cX8_gap 24 = .ok (.iload_n 3, 1) := by decide +kernel
theorem dX8_gap_25 : decode cX8_gap 25 = .ok (.ifCond .lt 52, 3) := by decide +kernel
theorem dX8_gap_28 : decode cX8_gap 28 = .ok (.iconst 0, 1) := by decide +kernel
theorem dX8_gap_29 : decode cX8_gap 29 = .ok (.istore 4, 2) := by decide +kernel
theorem dX8_gap_31 : decode cX8_gap 31 = .ok (.iload 4, 2) := by decide +kernel
theorem dX8_gap_33 : decode cX8_gap 33 = .ok (.aload_n 0, 1) := by decide +kernel
theorem dX8_gap_34 : decode cX8_gap 34 = .ok (.getfield 19, 3) := by decide +kernel
theorem dX8_gap_37 : decode cX8_gap 37 = .ok (.invokevirtual 99, 3) := by decide +kernel
theorem dX8_gap_40 : decode cX8_gap 40 = .ok (.if_icmp .ge 31, 3) := by decide +kernel
theorem dX8_gap_43 : decode cX8_gap 43 = .ok (.aload_n 0, 1) := by decide +kernel
theorem dX8_gap_44 : decode cX8_gap 44 = .ok (.iload 4, 2) := by decide +kernel
theorem dX8_gap_46 : decode cX8_gap 46 = .ok (.iload_n 3, 1) := by decide +kernel
theorem dX8_gap_47 : decode cX8_gap 47 = .ok (.iload_n 1, 1) := by decide +kernel
theorem dX8_gap_48 : decode cX8_gap 48 = .ok (.invokevirtual 223, 3) := by decide +kernel
theorem dX8_gap_51 : decode cX8_gap 51 = .ok (.ifCond .eq 14, 3) := by decide +kernel
theorem dX8_gap_54 : decode cX8_gap 54 = .ok (.iload_n 2, 1) := by decide +kernel
theorem dX8_gap_55 : decode cX8_gap 55 = .ok (.ifCond .ne 7, 3) := by decide +kernel
theorem dX8_gap_58 : decode cX8_gap 58 = .ok (.iload_n 3, 1) := by decide +kernel
theorem dX8_gap_59 : decode cX8_gap 59 = .ok (.goto 5, 3) := by decide +kernel
theorem dX8_gap_62 : decode cX8_gap 62 = .ok (.iload 4, 2) := by decide +kernel
theorem dX8_gap_64 : decode cX8_gap 64 = .ok (.ireturn, 1) := by decide +kernel
theorem dX8_gap_65 : decode cX8_gap 65 = .ok (.iinc 4 1, 3) := by decide +kernel
theorem dX8_gap_68 : decode cX8_gap 68 = .ok (.goto (-37), 3) := by decide +kernel
theorem dX8_gap_71 : decode cX8_gap 71 = .ok (.iinc 3 (-1), 3) := by decide +kernel
theorem dX8_gap_74 : decode cX8_gap 74 = .ok (.goto (-50), 3) := by decide +kernel
theorem dX8_gap_77 : decode cX8_gap 77 = .ok (.bipush (-4), 2) := by decide +kernel
theorem dX8_gap_79 : decode cX8_gap 79 = .ok (.ireturn, 1) := by decide +kernel
theorem dX8_isGap_0 : decode cX8_isGap 0 = .ok (.aload_n 0, 1) := by decide +kernel
theorem dX8_isGap_1 : decode cX8_isGap 1 = .ok (.getfield 35, 3) := by decide +kernel
theorem dX8_isGap_4 : decode cX8_isGap 4 = .ok (.aload_n 0, 1) := by decide +kernel
theorem dX8_isGap_5 : decode cX8_isGap 5 = .ok (.getfield 31, 3) := by decide +kernel
theorem dX8_isGap_8 : decode cX8_isGap 8 = .ok (.invokevirtual 186, 3) := by decide +kernel
theorem dX8_isGap_11 : decode cX8_isGap 11 = .ok (.aload_n 0, 1) := by decide +kernel
theorem dX8_isGap_12 : decode cX8_isGap 12 = .ok (.getfield 35, 3) := by decide +kernel
theorem dX8_isGap_15 : decode cX8_isGap 15 = .ok (.iload_n 1, 1) := by decide +kernel
theorem dX8_isGap_16 : decode cX8_isGap 16 = .ok (.iconst 2, 1) := by decide +kernel
theorem dX8_isGap_17 : decode cX8_isGap 17 = .ok (.iload_n 2, 1) := by decide +kernel
theorem dX8_isGap_18 : decode cX8_isGap 18 = .ok (.invokevirtual 226, 3) := by decide +kernel
theorem dX8_isGap_21 : decode cX8_isGap 21 = .ok (.iconst 0, 1) := by decide +kernel
theorem dX8_isGap_22 : decode cX8_isGap 22 = .ok (.istore 4, 2) := by decide +kernel
theorem dX8_isGap_24 : decode cX8_isGap 24 = .ok (.iload 4, 2) := by decide +kernel
theorem dX8_isGap_26 : decode cX8_isGap 26 = .ok (.iload_n 3, 1) := by decide +kernel
theorem dX8_isGap_27 : decode cX8_isGap 27 = .ok (.if_icmp .ge 40, 3) := by decide +kernel
theorem dX8_isGap_30 : decode cX8_isGap 30 = .ok (.aload_n 0, 1) := by decide +kernel
theorem dX8_isGap_31 : decode cX8_isGap 31 = .ok (.getfield 35, 3) := by decide +kernel
theorem dX8_isGap_34 : decode cX8_isGap 34 = .ok (.iconst 0, 1) := by decide +kernel
theorem dX8_isGap_35 : decode cX8_isGap 35 = .ok (.invokevirtual 229, 3) := by decide +kernel
theorem dX8_isGap_38 : decode cX8_isGap 38 = .ok (.aload_n 0, 1) := by decide +kernel
theorem dX8_isGap_39 : decode cX8_isGap 39 = .ok (.getfield 35, 3) := by decide +kernel
theorem dX8_isGap_42 : decode cX8_isGap 42 = .ok (.invokevirtual 233, 3) := by decide +kernel
theorem dX8_isGap_45 : decode cX8_isGap 45 = .ok (.ifCond .le 16, 3) := by decide +kernel
theorem dX8_isGap_48 : decode cX8_isGap 48 = .ok (.aload_n 0, 1) := by decide +kernel
theorem dX8_isGap_49 : decode cX8_isGap 49 = .ok (.getfield 35, 3) := by decide +kernel
theorem dX8_isGap_52 : decode cX8_isGap 52 = .ok (.invokevirtual 193, 3) := by decide +kernel
theorem dX8_isGap_55 : decode cX8_isGap 55 = .ok (.iload_n 1, 1) := by decide +kernel
theorem dX8_isGap_56 : decode cX8_isGap 56 = .ok (.if_icmp .eq 5, 3) := by decide +kernel
theorem dX8_isGap_59 : decode cX8_isGap 59 = .ok (.iconst 0, 1) := by decide +kernel
theorem dX8_isGap_60 : decode cX8_isGap 60 = .ok (.ireturn, 1) := by decide +kernel
theorem dX8_isGap_61 : decode cX8_isGap 61 = .ok (.iinc 4 1, 3) := by decide +kernel
theorem dX8_isGap_64 : decode cX8_isGap 64 = .ok (.goto (-40), 3) := by decide +kernel
theorem dX8_isGap_67 : decode cX8_isGap 67 = .ok (.iconst 1, 1) := by decide +kernel
theorem dX8_isGap_68 : decode cX8_isGap 68 = .ok (.ireturn, 1) := by decide +kernel
theorem dX8_together_0 : decode cX8_together 0 = .ok (.iload_n 1, 1) := by decide +kernel
theorem dX8_together_1 : decode cX8_together 1 = .ok (.iconst (-1), 1) := by decide +kernel
theorem dX8_together_2 : decode cX8_together 2 = .ok (.aload_n 0, 1) := by decide +kernel
theorem dX8_together_3 : decode cX8_together 3 = .ok (.getfield 19, 3) := by decide +kernel
theorem dX8_together_6 : decode cX8_together 6 = .ok (.invokevirtual 236, 3) := by decide +kernel
theorem dX8_together_9 : decode cX8_together 9 = .ok (.invokevirtual 240, 3) := by decide +kernel
theorem dX8_together_12 : decode cX8_together 12 = .ok (.iconst 1, 1) := by decide +kernel
theorem dX8_together_13 : decode cX8_together 13 = .ok (.isub, 1) := by decide +kernel
theorem dX8_together_14 : decode cX8_together 14 = .ok (.invokestatic 92, 3) := by decide +kernel
theorem dX8_together_17 : decode cX8_together 17 = .ok (.ifCond .ne 5, 3) := by decide +kernel
theorem dX8_together_20 : decode cX8_together 20 = .ok (.iconst (-1), 1) := by decide +kernel
theorem dX8_together_21 : decode cX8_together 21 = .ok (.ireturn, 1) := by decide +kernel
theorem dX8_together_22 : decode cX8_together 22 = .ok (.aload_n 0, 1) := by decide +kernel
theorem dX8_together_23 : decode cX8_together 23 = .ok (.getfield 19, 3) := by decide +kernel
theorem dX8_together_26 : decode cX8_together 26 = .ok (.invokevirtual 236, 3) := by decide +kernel
theorem dX8_together_29 : decode cX8_together 29 = .ok (.invokevirtual 245, 3) := by decide +kernel
theorem dX8_together_32 : decode cX8_together 32 = .ok (.istore_n 2, 1) := by decide +kernel
theorem dX8_together_33 : decode cX8_together 33 = .ok (.iload_n 2, 1) := by decide +kernel
theorem dX8_together_34 : decode cX8_together 34 = .ok (.bipush (-4), 2) := by decide +kernel
theorem dX8_together_36 : decode cX8_together 36 = .ok (.if_icmp .ne 6, 3) := by decide +kernel
theorem dX8_together_39 : decode cX8_together 39 = .ok (.bipush (-4), 2) := by decide +kernel
theorem dX8_together_41 : decode cX8_together 41 = .ok (.ireturn, 1) := by decide +kernel
theorem dX8_together_42 : decode cX8_together 42 = .ok (.iload_n 1, 1) := by decide +kernel
theorem dX8_together_43 : decode cX8_together 43 = .ok (.iconst (-1), 1) := by decide +kernel
theorem dX8_together_44 : decode cX8_together 44 = .ok (.if_icmp .ne 17, 3) := by decide +kernel
theorem dX8_together_47 : decode cX8_together 47 = .ok (.aload_n 0, 1) := by decide +kernel
theorem dX8_together_48 : decode cX8_together 48 = .ok (.getfield 19, 3) := by decide +kernel
theorem dX8_together_51 : decode cX8_together 51 = .ok (.invokevirtual 236, 3) := by decide +kernel
theorem dX8_together_54 : decode cX8_together 54 = .ok (.iload_n 2, 1) := by decide +kernel
theorem dX8_together_55 : decode cX8_together 55 = .ok (.invokevirtual 248, 3) := by decide +kernel
theorem dX8_together_58 : decode cX8_together 58 = .ok (.goto 15, 3) := by decide +kernel
theorem dX8_together_61 : decode cX8_together 61 = .ok (.aload_n 0, 1) := by decide +kernel
theorem dX8_together_62 : decode cX8_together 62 = .ok (.getfield 19, 3) := by decide +kernel
theorem dX8_together_65 : decode cX8_together 65 = .ok (.invokevirtual 236, 3) := by decide +kernel
theorem dX8_together_68 : decode cX8_together 68 = .ok (.iload_n 1, 1) := by decide +kernel
theorem dX8_together_69 : decode cX8_together 69 = .ok (.iload_n 2, 1) := by decide +kernel
theorem dX8_together_70 : decode cX8_together 70 = .ok (.invokevirtual 251, 3) := by decide +kernel
theorem dX8_together_73 : decode cX8_together 73 = .ok (.ireturn, 1) := by decide +kernel
theorem dX8_slow_0 : decode cX8_slow 0 = .ok (.aload_n 0, 1) := by decide +kernel
theorem dX8_slow_1 : decode cX8_slow 1 = .ok (.iload_n 1, 1) := by decide +kernel
theorem dX8_slow_2 : decode cX8_slow 2 = .ok (.invokevirtual 108, 3) := by decide +kernel
theorem dX8_slow_5 : decode cX8_slow 5 = .ok (.ifCond .eq 23, 3) := by decide +kernel
theorem dX8_slow_8 : decode cX8_slow 8 = .ok (.iload_n 2, 1) := by decide +kernel
theorem dX8_slow_9 : decode cX8_slow 9 = .ok (.iconst 0, 1) := by decide +kernel
theorem dX8_slow_10 : decode cX8_slow 10 = .ok (.sipush 999, 3) := by decide +kernel
theorem dX8_slow_13 : decode cX8_slow 13 = .ok (.invokestatic 92, 3) := by decide +kernel
theorem dX8_slow_16 : decode cX8_slow 16 = .ok (.ifCond .eq 12, 3) := by decide +kernel
theorem dX8_slow_19 : decode cX8_slow 19 = .ok (.iload_n 3, 1) := by decide +kernel
theorem dX8_slow_20 : decode cX8_slow 20 = .ok (.iconst 0, 1) := by decide +kernel
theorem dX8_slow_21 : decode cX8_slow 21 = .ok (.iconst 1, 1) := by decide +kernel
theorem dX8_slow_22 : decode cX8_slow 22 = .ok (.invokestatic 92, 3) := by decide +kernel
theorem dX8_slow_25 : decode cX8_slow 25 = .ok (.ifCond .ne 5, 3) := by decide +kernel
theorem dX8_slow_28 : decode cX8_slow 28 = .ok (.iconst (-1), 1) := by decide +kernel
theorem dX8_slow_29 : decode cX8_slow 29 = .ok (.ireturn, 1) := by decide +kernel
theorem dX8_slow_30 : decode cX8_slow 30 = .ok (.iconst 1, 1) := by decide +kernel
theorem dX8_slow_31 : decode cX8_slow 31 = .ok (.istore 4, 2) := by decide +kernel
theorem dX8_slow_33 : decode cX8_slow 33 = .ok (.iload 4, 2) := by decide +kernel
theorem dX8_slow_35 : decode cX8_slow 35 = .ok (.bipush 9, 2) := by decide +kernel
theorem dX8_slow_37 : decode cX8_slow 37 = .ok (.if_icmp .gt 43, 3) := by decide +kernel
theorem dX8_slow_40 : decode cX8_slow 40 = .ok (.aload_n 0, 1) := by decide +kernel
theorem dX8_slow_41 : decode cX8_slow 41 = .ok (.iload_n 1, 1) := by decide +kernel
theorem dX8_slow_42 : decode cX8_slow 42 = .ok (.iload 4, 2) := by decide +kernel
theorem dX8_slow_44 : decode cX8_slow 44 = .ok (.iconst 0, 1) := by decide +kernel
theorem dX8_slow_45 : decode cX8_slow 45 = .ok (.invokevirtual 254, 3) := by decide +kernel
theorem dX8_slow_48 : decode cX8_slow 48 = .ok (.istore 5, 2) := by decide +kernel
theorem dX8_slow_50 : decode cX8_slow 50 = .ok (.iload 5, 2) := by decide +kernel
theorem dX8_slow_52 : decode cX8_slow 52 = .ok (.iload_n 2, 1) := by decide +kernel
theorem dX8_slow_53 : decode cX8_slow 53 = .ok (.if_icmp .gt 21, 3) := by decide +kernel
theorem dX8_slow_56 : decode cX8_slow 56 = .ok (.iload_n 3, 1) := by decide +kernel
theorem dX8_slow_57 : decode cX8_slow 57 = .ok (.ifCond .ne 8, 3) := by decide +kernel
theorem dX8_slow_60 : decode cX8_slow 60 = .ok (.iload 4, 2) := by decide +kernel
theorem dX8_slow_62 : decode cX8_slow 62 = .ok (.goto 11, 3) := by decide +kernel
theorem dX8_slow_65 : decode cX8_slow 65 = .ok (.aload_n 0, 1) := by decide +kernel
theorem dX8_slow_66 : decode cX8_slow 66 = .ok (.iload_n 1, 1) := by decide +kernel
theorem dX8_slow_67 : decode cX8_slow 67 = .ok (.iload 4, 2) := by decide +kernel
theorem dX8_slow_69 : decode cX8_slow 69 = .ok (.iconst 1, 1) := by decide +kernel
theorem dX8_slow_70 : decode cX8_slow 70 = .ok (.invokevirtual 254, 3) := by decide +kernel
theorem dX8_slow_73 : decode cX8_slow 73 = .ok (.ireturn, 1) := by decide +kernel
theorem dX8_slow_74 : decode cX8_slow 74 = .ok (.iinc 4 1, 3) := by decide +kernel
theorem dX8_slow_77 : decode cX8_slow 77 = .ok (.goto (-44), 3) := by decide +kernel
theorem dX8_slow_80 : decode cX8_slow 80 = .ok (.bipush (-4), 2) := by decide +kernel
theorem dX8_slow_82 : decode cX8_slow 82 = .ok (.ireturn, 1) := by decide +kernel
theorem dX8_letOut_0 : decode cX8_letOut 0 = .ok (.iconst 0, 1) := by decide +kernel
theorem dX8_letOut_1 : decode cX8_letOut 1 = .ok (.istore 4, 2) := by decide +kernel
theorem dX8_letOut_3 : decode cX8_letOut 3 = .ok (.iconst 0, 1) := by decide +kernel
theorem dX8_letOut_4 : decode cX8_letOut 4 = .ok (.istore 5, 2) := by decide +kernel
theorem dX8_letOut_6 : decode cX8_letOut 6 = .ok (.aload_n 0, 1) := by decide +kernel
theorem dX8_letOut_7 : decode cX8_letOut 7 = .ok (.getfield 35, 3) := by decide +kernel
theorem dX8_letOut_10 : decode cX8_letOut 10 = .ok (.aload_n 0, 1) := by decide +kernel
theorem dX8_letOut_11 : decode cX8_letOut 11 = .ok (.getfield 31, 3) := by decide +kernel
theorem dX8_letOut_14 : decode cX8_letOut 14 = .ok (.invokevirtual 186, 3) := by decide +kernel
theorem dX8_letOut_17 : decode cX8_letOut 17 = .ok (.iconst 1, 1) := by decide +kernel
theorem dX8_letOut_18 : decode cX8_letOut 18 = .ok (.istore 6, 2) := by decide +kernel
theorem dX8_letOut_20 : decode cX8_letOut 20 = .ok (.iload 6, 2) := by decide +kernel
theorem dX8_letOut_22 : decode cX8_letOut 22 = .ok (.bipush 60, 2) := by decide +kernel
theorem dX8_letOut_24 : decode cX8_letOut 24 = .ok (.if_icmp .gt 81, 3) := by decide +kernel
theorem dX8_letOut_27 : decode cX8_letOut 27 = .ok (.iinc 5 1, 3) := by decide +kernel
theorem dX8_letOut_30 : decode cX8_letOut 30 = .ok (.iload 5, 2) := by decide +kernel
theorem dX8_letOut_32 : decode cX8_letOut 32 = .ok (.iload_n 2, 1) := by decide +kernel
theorem dX8_letOut_33 : decode cX8_letOut 33 = .ok (.if_icmp .ne 27, 3) := by decide +kernel
theorem dX8_letOut_36 : decode cX8_letOut 36 = .ok (.iconst 0, 1) := by decide +kernel
theorem dX8_letOut_37 : decode cX8_letOut 37 = .ok (.istore 5, 2) := by decide +kernel
theorem dX8_letOut_39 : decode cX8_letOut 39 = .ok (.aload_n 0, 1) := by decide +kernel
theorem dX8_letOut_40 : decode cX8_letOut 40 = .ok (.getfield 35, 3) := by decide +kernel
theorem dX8_letOut_43 : decode cX8_letOut 43 = .ok (.iload_n 1, 1) := by decide +kernel
theorem dX8_letOut_44 : decode cX8_letOut 44 = .ok (.iconst 1, 1) := by decide +kernel
theorem dX8_letOut_45 : decode cX8_letOut 45 = .ok (.invokevirtual 165, 3) := by decide +kernel
theorem dX8_letOut_48 : decode cX8_letOut 48 = .ok (.ifCond .eq 12, 3) := by decide +kernel
theorem dX8_letOut_51 : decode cX8_letOut 51 = .ok (.aload_n 0, 1) := by decide +kernel
theorem dX8_letOut_52 : decode cX8_letOut 52 = .ok (.getfield 35, 3) := by decide +kernel
theorem dX8_letOut_55 : decode cX8_letOut 55 = .ok (.iload_n 1, 1) := by decide +kernel
theorem dX8_letOut_56 : decode cX8_letOut 56 = .ok (.iconst 1, 1) := by decide +kernel
theorem dX8_letOut_57 : decode cX8_letOut 57 = .ok (.invokevirtual 168, 3) := by decide +kernel
theorem dX8_letOut_60 : decode cX8_letOut 60 = .ok (.aload_n 0, 1) := by decide +kernel
theorem dX8_letOut_61 : decode cX8_letOut 61 = .ok (.getfield 35, 3) := by decide +kernel
theorem dX8_letOut_64 : decode cX8_letOut 64 = .ok (.iconst 0, 1) := by decide +kernel
theorem dX8_letOut_65 : decode cX8_letOut 65 = .ok (.invokevirtual 229, 3) := by decide +kernel
theorem dX8_letOut_68 : decode cX8_letOut 68 = .ok (.iload 4, 2) := by decide +kernel
theorem dX8_letOut_70 : decode cX8_letOut 70 = .ok (.aload_n 0, 1) := by decide +kernel
theorem dX8_letOut_71 : decode cX8_letOut 71 = .ok (.getfield 35, 3) := by decide +kernel
theorem dX8_letOut_74 : decode cX8_letOut 74 = .ok (.invokevirtual 233, 3) := by decide +kernel
theorem dX8_letOut_77 : decode cX8_letOut 77 = .ok (.invokestatic 258, 3) := by decide +kernel
theorem dX8_letOut_80 : decode cX8_letOut 80 = .ok (.istore 4, 2) := by decide +kernel
theorem dX8_letOut_82 : decode cX8_letOut 82 = .ok (.iload_n 3, 1) := by decide +kernel
theorem dX8_letOut_83 : decode cX8_letOut 83 = .ok (.ifCond .eq 16, 3) := by decide +kernel
theorem dX8_letOut_86 : decode cX8_letOut 86 = .ok (.aload_n 0, 1) := by decide +kernel
theorem dX8_letOut_87 : decode cX8_letOut 87 = .ok (.getfield 35, 3) := by decide +kernel
theorem dX8_letOut_90 : decode cX8_letOut 90 = .ok (.invokevirtual 121, 3) := by decide +kernel
theorem dX8_letOut_93 : decode cX8_letOut 93 = .ok (.ifCond .ne 6, 3) := by decide +kernel
theorem dX8_letOut_96 : decode cX8_letOut 96 = .ok (.iload 6, 2) := by decide +kernel
theorem dX8_letOut_98 : decode cX8_letOut 98 = .ok (.ireturn, 1) := by decide +kernel
theorem dX8_letOut_99 : decode cX8_letOut 99 = .ok (.iinc 6 1, 3) := by decide +kernel
theorem dX8_letOut_102 : decode cX8_letOut 102 = .ok (.goto (-82), 3) := by decide +kernel
theorem dX8_letOut_105 : decode cX8_letOut 105 = .ok (.iload_n 3, 1) := by decide +kernel
theorem dX8_letOut_106 : decode cX8_letOut 106 = .ok (.ifCond .eq 8, 3) := by decide +kernel
theorem dX8_letOut_109 : decode cX8_letOut 109 = .ok (.bipush (-4), 2) := by decide +kernel
theorem dX8_letOut_111 : decode cX8_letOut 111 = .ok (.goto 5, 3) := by decide +kernel
theorem dX8_letOut_114 : decode cX8_letOut 114 = .ok (.iload 4, 2) := by decide +kernel
theorem dX8_letOut_116 : decode cX8_letOut 116 = .ok (.ireturn, 1) := by decide +kernel
theorem dX8_fill_0 : decode cX8_fill 0 = .ok (.iload_n 1, 1) := by decide +kernel
theorem dX8_fill_1 : decode cX8_fill 1 = .ok (.iconst 1, 1) := by decide +kernel
theorem dX8_fill_2 : decode cX8_fill 2 = .ok (.bipush 40, 2) := by decide +kernel
theorem dX8_fill_4 : decode cX8_fill 4 = .ok (.invokestatic 92, 3) := by decide +kernel
theorem dX8_fill_7 : decode cX8_fill 7 = .ok (.ifCond .ne 5, 3) := by decide +kernel
theorem dX8_fill_10 : decode cX8_fill 10 = .ok (.iconst (-1), 1) := by decide +kernel
theorem dX8_fill_11 : decode cX8_fill 11 = .ok (.ireturn, 1) := by decide +kernel
theorem dX8_fill_12 : decode cX8_fill 12 = .ok (.aload_n 0, 1) := by decide +kernel
theorem dX8_fill_13 : decode cX8_fill 13 = .ok (.getfield 35, 3) := by decide +kernel
theorem dX8_fill_16 : decode cX8_fill 16 = .ok (.aload_n 0, 1) := by decide +kernel
theorem dX8_fill_17 : decode cX8_fill 17 = .ok (.getfield 31, 3) := by decide +kernel
theorem dX8_fill_20 : decode cX8_fill 20 = .ok (.invokevirtual 186, 3) := by decide +kernel
theorem dX8_fill_23 : decode cX8_fill 23 = .ok (.aload_n 0, 1) := by decide +kernel
theorem dX8_fill_24 : decode cX8_fill 24 = .ok (.getfield 35, 3) := by decide +kernel
theorem dX8_fill_27 : decode cX8_fill 27 = .ok (.invokevirtual 263, 3) := by decide +kernel
theorem dX8_fill_30 : decode cX8_fill 30 = .ok (.iconst 1, 1) := by decide +kernel
theorem dX8_fill_31 : decode cX8_fill 31 = .ok (.istore_n 2, 1) := by decide +kernel
theorem dX8_fill_32 : decode cX8_fill 32 = .ok (.iload_n 2, 1) := by decide +kernel
theorem dX8_fill_33 : decode cX8_fill 33 = .ok (.sipush 200, 3) := by decide +kernel
theorem dX8_fill_36 : decode cX8_fill 36 = .ok (.if_icmp .gt 30, 3) := by decide +kernel
theorem dX8_fill_39 : decode cX8_fill 39 = .ok (.aload_n 0, 1) := by decide +kernel
theorem dX8_fill_40 : decode cX8_fill 40 = .ok (.getfield 35, 3) := by decide +kernel
theorem dX8_fill_43 : decode cX8_fill 43 = .ok (.iconst 0, 1) := by decide +kernel
theorem dX8_fill_44 : decode cX8_fill 44 = .ok (.invokevirtual 229, 3) := by decide +kernel
theorem dX8_fill_47 : decode cX8_fill 47 = .ok (.aload_n 0, 1) := by decide +kernel
theorem dX8_fill_48 : decode cX8_fill 48 = .ok (.getfield 35, 3) := by decide +kernel
theorem dX8_fill_51 : decode cX8_fill 51 = .ok (.invokevirtual 121, 3) := by decide +kernel
theorem dX8_fill_54 : decode cX8_fill 54 = .ok (.iload_n 1, 1) := by decide +kernel
theorem dX8_fill_55 : decode cX8_fill 55 = .ok (.if_icmp .lt 5, 3) := by decide +kernel
theorem dX8_fill_58 : decode cX8_fill 58 = .ok (.iload_n 2, 1) := by decide +kernel
theorem dX8_fill_59 : decode cX8_fill 59 = .ok (.ireturn, 1) := by decide +kernel
theorem dX8_fill_60 : decode cX8_fill 60 = .ok (.iinc 2 1, 3) := by decide +kernel
theorem dX8_fill_63 : decode cX8_fill 63 = .ok (.goto (-31), 3) := by decide +kernel
theorem dX8_fill_66 : decode cX8_fill 66 = .ok (.bipush (-4), 2) := by decide +kernel
theorem dX8_fill_68 : decode cX8_fill 68 = .ok (.ireturn, 1) := by decide +kernel
theorem dX8_trodden_0 : decode cX8_trodden 0 = .ok (.aload_n 0, 1) := by decide +kernel
theorem dX8_trodden_1 : decode cX8_trodden 1 = .ok (.iload_n 1, 1) := by decide +kernel
theorem dX8_trodden_2 : decode cX8_trodden 2 = .ok (.invokevirtual 108, 3) := by decide +kernel
theorem dX8_trodden_5 : decode cX8_trodden 5 = .ok (.ifCond .eq 13, 3) := by decide +kernel
theorem dX8_trodden_8 : decode cX8_trodden 8 = .ok (.iload_n 2, 1) := by decide +kernel
theorem dX8_trodden_9 : decode cX8_trodden 9 = .ok (.iconst 1, 1) := by decide +kernel
theorem dX8_trodden_10 : decode cX8_trodden 10 = .ok (.bipush 9, 2) := by decide +kernel
theorem dX8_trodden_12 : decode cX8_trodden 12 = .ok (.invokestatic 92, 3) := by decide +kernel
theorem dX8_trodden_15 : decode cX8_trodden 15 = .ok (.ifCond .ne 5, 3) := by decide +kernel
theorem dX8_trodden_18 : decode cX8_trodden 18 = .ok (.iconst (-1), 1) := by decide +kernel
theorem dX8_trodden_19 : decode cX8_trodden 19 = .ok (.ireturn, 1) := by decide +kernel
theorem dX8_trodden_20 : decode cX8_trodden 20 = .ok (.aload_n 0, 1) := by decide +kernel
theorem dX8_trodden_21 : decode cX8_trodden 21 = .ok (.getfield 31, 3) := by decide +kernel
theorem dX8_trodden_24 : decode cX8_trodden 24 = .ok (.iload_n 1, 1) := by decide +kernel
theorem dX8_trodden_25 : decode cX8_trodden 25 = .ok (.iload_n 2, 1) := by decide +kernel
theorem dX8_trodden_26 : decode cX8_trodden 26 = .ok (.invokevirtual 154, 3) := by decide +kernel
theorem dX8_trodden_29 : decode cX8_trodden 29 = .ok (.ifCond .ne 6, 3) := by decide +kernel
theorem dX8_trodden_32 : decode cX8_trodden 32 = .ok (.bipush (-2), 2) := by decide +kernel
theorem dX8_trodden_34 : decode cX8_trodden 34 = .ok (.ireturn, 1) := by decide +kernel
theorem dX8_trodden_35 : decode cX8_trodden 35 = .ok (.aload_n 0, 1) := by decide +kernel
theorem dX8_trodden_36 : decode cX8_trodden 36 = .ok (.getfield 35, 3) := by decide +kernel
theorem dX8_trodden_39 : decode cX8_trodden 39 = .ok (.aload_n 0, 1) := by decide +kernel
theorem dX8_trodden_40 : decode cX8_trodden 40 = .ok (.getfield 31, 3) := by decide +kernel
theorem dX8_trodden_43 : decode cX8_trodden 43 = .ok (.invokevirtual 186, 3) := by decide +kernel
theorem dX8_trodden_46 : decode cX8_trodden 46 = .ok (.aload_n 0, 1) := by decide +kernel
theorem dX8_trodden_47 : decode cX8_trodden 47 = .ok (.getfield 35, 3) := by decide +kernel
theorem dX8_trodden_50 : decode cX8_trodden 50 = .ok (.invokevirtual 196, 3) := by decide +kernel
theorem dX8_trodden_53 : decode cX8_trodden 53 = .ok (.istore_n 3, 1) := by decide +kernel
theorem dX8_trodden_54 : decode cX8_trodden 54 = .ok (.iload_n 3, 1) := by decide +kernel
theorem dX8_trodden_55 : decode cX8_trodden 55 = .ok (.bipush (-4), 2) := by decide +kernel
theorem dX8_trodden_57 : decode cX8_trodden 57 = .ok (.if_icmp .ne 6, 3) := by decide +kernel
theorem dX8_trodden_60 : decode cX8_trodden 60 = .ok (.bipush (-4), 2) := by decide +kernel
theorem dX8_trodden_62 : decode cX8_trodden 62 = .ok (.ireturn, 1) := by decide +kernel
theorem dX8_trodden_63 : decode cX8_trodden 63 = .ok (.aload_n 0, 1) := by decide +kernel
theorem dX8_trodden_64 : decode cX8_trodden 64 = .ok (.getfield 35, 3) := by decide +kernel
theorem dX8_trodden_67 : decode cX8_trodden 67 = .ok (.aload_n 0, 1) := by decide +kernel
theorem dX8_trodden_68 : decode cX8_trodden 68 = .ok (.getfield 31, 3) := by decide +kernel
theorem dX8_trodden_71 : decode cX8_trodden 71 = .ok (.invokevirtual 186, 3) := by decide +kernel
theorem dX8_trodden_74 : decode cX8_trodden 74 = .ok (.aload_n 0, 1) := by decide +kernel
theorem dX8_trodden_75 : decode cX8_trodden 75 = .ok (.getfield 35, 3) := by decide +kernel
theorem dX8_trodden_78 : decode cX8_trodden 78 = .ok (.iload_n 1, 1) := by decide +kernel
theorem dX8_trodden_79 : decode cX8_trodden 79 = .ok (.aload_n 0, 1) := by decide +kernel
theorem dX8_trodden_80 : decode cX8_trodden 80 = .ok (.getfield 31, 3) := by decide +kernel
theorem dX8_trodden_83 : decode cX8_trodden 83 = .ok (.iload_n 1, 1) := by decide +kernel
theorem dX8_trodden_84 : decode cX8_trodden 84 = .ok (.invokevirtual 115, 3) := by decide +kernel
theorem dX8_trodden_87 : decode cX8_trodden 87 = .ok (.iload_n 2, 1) := by decide +kernel
theorem dX8_trodden_88 : decode cX8_trodden 88 = .ok (.invokevirtual 161, 3) := by decide +kernel
theorem dX8_trodden_91 : decode cX8_trodden 91 = .ok (.aload_n 0, 1) := by decide +kernel
theorem dX8_trodden_92 : decode cX8_trodden 92 = .ok (.getfield 35, 3) := by decide +kernel
theorem dX8_trodden_95 : decode cX8_trodden 95 = .ok (.invokevirtual 196, 3) := by decide +kernel
theorem dX8_trodden_98 : decode cX8_trodden 98 = .ok (.istore 4, 2) := by decide +kernel
theorem dX8_trodden_100 : decode cX8_trodden 100 = .ok (.iload 4, 2) := by decide +kernel
theorem dX8_trodden_102 : decode cX8_trodden 102 = .ok (.bipush (-4), 2) := by decide +kernel
theorem dX8_trodden_104 : decode cX8_trodden 104 = .ok (.if_icmp .ne 9, 3) := by decide +kernel
theorem dX8_trodden_107 : decode cX8_trodden 107 = .ok (.sipush 200, 3) := by decide +kernel
theorem dX8_trodden_110 : decode cX8_trodden 110 = .ok (.goto 5, 3) := by decide +kernel
theorem dX8_trodden_113 : decode cX8_trodden 113 = .ok (.iload 4, 2) := by decide +kernel
theorem dX8_trodden_115 : decode cX8_trodden 115 = .ok (.iload_n 3, 1) := by decide +kernel
theorem dX8_trodden_116 : decode cX8_trodden 116 = .ok (.isub, 1) := by decide +kernel
theorem dX8_trodden_117 : decode cX8_trodden 117 = .ok (.sipush 200, 3) := by decide +kernel
theorem dX8_trodden_120 : decode cX8_trodden 120 = .ok (.iadd, 1) := by decide +kernel
theorem dX8_trodden_121 : decode cX8_trodden 121 = .ok (.ireturn, 1) := by decide +kernel
theorem dX8_blame_0 : decode cX8_blame 0 = .ok (.aload_n 0, 1) := by decide +kernel
theorem dX8_blame_1 : decode cX8_blame 1 = .ok (.getfield 31, 3) := by decide +kernel
theorem dX8_blame_4 : decode cX8_blame 4 = .ok (.invokevirtual 266, 3) := by decide +kernel
theorem dX8_blame_7 : decode cX8_blame 7 = .ok (.ifCond .ne 6, 3) := by decide +kernel
theorem dX8_blame_10 : decode cX8_blame 10 = .ok (.bipush (-4), 2) := by decide +kernel
theorem dX8_blame_12 : decode cX8_blame 12 = .ok (.ireturn, 1) := by decide +kernel
theorem dX8_blame_13 : decode cX8_blame 13 = .ok (.iconst 0, 1) := by decide +kernel
theorem dX8_blame_14 : decode cX8_blame 14 = .ok (.istore_n 1, 1) := by decide +kernel
theorem dX8_blame_15 : decode cX8_blame 15 = .ok (.iload_n 1, 1) := by decide +kernel
theorem dX8_blame_16 : decode cX8_blame 16 = .ok (.aload_n 0, 1) := by decide +kernel
theorem dX8_blame_17 : decode cX8_blame 17 = .ok (.getfield 41, 3) := by decide +kernel
theorem dX8_blame_20 : decode cX8_blame 20 = .ok (.invokevirtual 178, 3) := by decide +kernel
theorem dX8_blame_23 : decode cX8_blame 23 = .ok (.if_icmp .ge 33, 3) := by decide +kernel
theorem dX8_blame_26 : decode cX8_blame 26 = .ok (.aload_n 0, 1) := by decide +kernel
theorem dX8_blame_27 : decode cX8_blame 27 = .ok (.getfield 41, 3) := by decide +kernel
theorem dX8_blame_30 : decode cX8_blame 30 = .ok (.iload_n 1, 1) := by decide +kernel
theorem dX8_blame_31 : decode cX8_blame 31 = .ok (.aload_n 0, 1) := by decide +kernel
theorem dX8_blame_32 : decode cX8_blame 32 = .ok (.getfield 35, 3) := by decide +kernel
theorem dX8_blame_35 : decode cX8_blame 35 = .ok (.invokevirtual 182, 3) := by decide +kernel
theorem dX8_blame_38 : decode cX8_blame 38 = .ok (.aload_n 0, 1) := by decide +kernel
theorem dX8_blame_39 : decode cX8_blame 39 = .ok (.getfield 35, 3) := by decide +kernel
theorem dX8_blame_42 : decode cX8_blame 42 = .ok (.invokevirtual 266, 3) := by decide +kernel
theorem dX8_blame_45 : decode cX8_blame 45 = .ok (.ifCond .ne 5, 3) := by decide +kernel
theorem dX8_blame_48 : decode cX8_blame 48 = .ok (.iload_n 1, 1) := by decide +kernel
theorem dX8_blame_49 : decode cX8_blame 49 = .ok (.ireturn, 1) := by decide +kernel
theorem dX8_blame_50 : decode cX8_blame 50 = .ok (.iinc 1 1, 3) := by decide +kernel
theorem dX8_blame_53 : decode cX8_blame 53 = .ok (.goto (-38), 3) := by decide +kernel
theorem dX8_blame_56 : decode cX8_blame 56 = .ok (.bipush (-4), 2) := by decide +kernel
theorem dX8_blame_58 : decode cX8_blame 58 = .ok (.ireturn, 1) := by decide +kernel
theorem dX8_seen_0 : decode cX8_seen 0 = .ok (.iload_n 1, 1) := by decide +kernel
theorem dX8_seen_1 : decode cX8_seen 1 = .ok (.iconst 0, 1) := by decide +kernel
theorem dX8_seen_2 : decode cX8_seen 2 = .ok (.bipush 60, 2) := by decide +kernel
theorem dX8_seen_4 : decode cX8_seen 4 = .ok (.invokestatic 92, 3) := by decide +kernel
theorem dX8_seen_7 : decode cX8_seen 7 = .ok (.ifCond .eq 13, 3) := by decide +kernel
theorem dX8_seen_10 : decode cX8_seen 10 = .ok (.iload_n 2, 1) := by decide +kernel
theorem dX8_seen_11 : decode cX8_seen 11 = .ok (.iconst 1, 1) := by decide +kernel
theorem dX8_seen_12 : decode cX8_seen 12 = .ok (.bipush 99, 2) := by decide +kernel
theorem dX8_seen_14 : decode cX8_seen 14 = .ok (.invokestatic 92, 3) := by decide +kernel
theorem dX8_seen_17 : decode cX8_seen 17 = .ok (.ifCond .ne 5, 3) := by decide +kernel
theorem dX8_seen_20 : decode cX8_seen 20 = .ok (.iconst (-1), 1) := by decide +kernel
theorem dX8_seen_21 : decode cX8_seen 21 = .ok (.ireturn, 1) := by decide +kernel
theorem dX8_seen_22 : decode cX8_seen 22 = .ok (.aload_n 0, 1) := by decide +kernel
theorem dX8_seen_23 : decode cX8_seen 23 = .ok (.getfield 52, 3) := by decide +kernel
theorem dX8_seen_26 : decode cX8_seen 26 = .ok (.iload_n 1, 1) := by decide +kernel
theorem dX8_seen_27 : decode cX8_seen 27 = .ok (.iload_n 2, 1) := by decide +kernel
theorem dX8_seen_28 : decode cX8_seen 28 = .ok (.invokevirtual 269, 3) := by decide +kernel
theorem dX8_seen_31 : decode cX8_seen 31 = .ok (.ifCond .eq 13, 3) := by decide +kernel
theorem dX8_seen_34 : decode cX8_seen 34 = .ok (.aload_n 0, 1) := by decide +kernel
theorem dX8_seen_35 : decode cX8_seen 35 = .ok (.getfield 52, 3) := by decide +kernel
theorem dX8_seen_38 : decode cX8_seen 38 = .ok (.invokevirtual 271, 3) := by decide +kernel
theorem dX8_seen_41 : decode cX8_seen 41 = .ok (.goto 5, 3) := by decide +kernel
theorem dX8_seen_44 : decode cX8_seen 44 = .ok (.bipush (-3), 2) := by decide +kernel
theorem dX8_seen_46 : decode cX8_seen 46 = .ok (.ireturn, 1) := by decide +kernel
theorem dX8_forget_0 : decode cX8_forget 0 = .ok (.aload_n 0, 1) := by decide +kernel
theorem dX8_forget_1 : decode cX8_forget 1 = .ok (.getfield 52, 3) := by decide +kernel
theorem dX8_forget_4 : decode cX8_forget 4 = .ok (.invokevirtual 271, 3) := by decide +kernel
theorem dX8_forget_7 : decode cX8_forget 7 = .ok (.istore_n 1, 1) := by decide +kernel
theorem dX8_forget_8 : decode cX8_forget 8 = .ok (.aload_n 0, 1) := by decide +kernel
theorem dX8_forget_9 : decode cX8_forget 9 = .ok (.getfield 52, 3) := by decide +kernel
theorem dX8_forget_12 : decode cX8_forget 12 = .ok (.invokevirtual 107, 3) := by decide +kernel
theorem dX8_forget_15 : decode cX8_forget 15 = .ok (.iload_n 1, 1) := by decide +kernel
theorem dX8_forget_16 : decode cX8_forget 16 = .ok (.ireturn, 1) := by decide +kernel
theorem dX8_flows_0 : decode cX8_flows 0 = .ok (.iconst 0, 1) := by decide +kernel
theorem dX8_flows_1 : decode cX8_flows 1 = .ok (.istore_n 1, 1) := by decide +kernel
theorem dX8_flows_2 : decode cX8_flows 2 = .ok (.iconst 0, 1) := by decide +kernel
theorem dX8_flows_3 : decode cX8_flows 3 = .ok (.istore_n 2, 1) := by decide +kernel
theorem dX8_flows_4 : decode cX8_flows 4 = .ok (.iload_n 2, 1) := by decide +kernel
theorem dX8_flows_5 : decode cX8_flows 5 = .ok (.bipush 30, 2) := by decide +kernel
theorem dX8_flows_7 : decode cX8_flows 7 = .ok (.if_icmp .gt 30, 3) := by decide +kernel
theorem dX8_flows_10 : decode cX8_flows 10 = .ok (.aload_n 0, 1) := by decide +kernel
theorem dX8_flows_11 : decode cX8_flows 11 = .ok (.getfield 52, 3) := by decide +kernel
theorem dX8_flows_14 : decode cX8_flows 14 = .ok (.iload_n 2, 1) := by decide +kernel
theorem dX8_flows_15 : decode cX8_flows 15 = .ok (.aload_n 0, 1) := by decide +kernel
theorem dX8_flows_16 : decode cX8_flows 16 = .ok (.getfield 19, 3) := by decide +kernel
theorem dX8_flows_19 : decode cX8_flows 19 = .ok (.invokevirtual 272, 3) := by decide +kernel
theorem dX8_flows_22 : decode cX8_flows 22 = .ok (.ifCond .eq 9, 3) := by decide +kernel
theorem dX8_flows_25 : decode cX8_flows 25 = .ok (.iload_n 1, 1) := by decide +kernel
theorem dX8_flows_26 : decode cX8_flows 26 = .ok (.iconst 1, 1) := by decide +kernel
theorem dX8_flows_27 : decode cX8_flows 27 = .ok (.iload_n 2, 1) := by decide +kernel
theorem dX8_flows_28 : decode cX8_flows 28 = .ok (.ishl, 1) := by decide +kernel
theorem dX8_flows_29 : decode cX8_flows 29 = .ok (.ior, 1) := by decide +kernel
theorem dX8_flows_30 : decode cX8_flows 30 = .ok (.istore_n 1, 1) := by decide +kernel
theorem dX8_flows_31 : decode cX8_flows 31 = .ok (.iinc 2 1, 3) := by decide +kernel
theorem dX8_flows_34 : decode cX8_flows 34 = .ok (.goto (-30), 3) := by decide +kernel
theorem dX8_flows_37 : decode cX8_flows 37 = .ok (.iload_n 1, 1) := by decide +kernel
theorem dX8_flows_38 : decode cX8_flows 38 = .ok (.ireturn, 1) := by decide +kernel
theorem dX8_odds_0 : decode cX8_odds 0 = .ok (.iload_n 1, 1) := by decide +kernel
theorem dX8_odds_1 : decode cX8_odds 1 = .ok (.iconst 0, 1) := by decide +kernel
theorem dX8_odds_2 : decode cX8_odds 2 = .ok (.iconst 5, 1) := by decide +kernel
theorem dX8_odds_3 : decode cX8_odds 3 = .ok (.invokestatic 92, 3) := by decide +kernel
theorem dX8_odds_6 : decode cX8_odds 6 = .ok (.ifCond .eq 33, 3) := by decide +kernel
theorem dX8_odds_9 : decode cX8_odds 9 = .ok (.iload_n 2, 1) := by decide +kernel
theorem dX8_odds_10 : decode cX8_odds 10 = .ok (.iconst 0, 1) := by decide +kernel
theorem dX8_odds_11 : decode cX8_odds 11 = .ok (.bipush 30, 2) := by decide +kernel
theorem dX8_odds_13 : decode cX8_odds 13 = .ok (.invokestatic 92, 3) := by decide +kernel
theorem dX8_odds_16 : decode cX8_odds 16 = .ok (.ifCond .eq 23, 3) := by decide +kernel
theorem dX8_odds_19 : decode cX8_odds 19 = .ok (.iload_n 3, 1) := by decide +kernel
theorem dX8_odds_20 : decode cX8_odds 20 = .ok (.iconst 0, 1) := by decide +kernel
theorem dX8_odds_21 : decode cX8_odds 21 = .ok (.bipush 10, 2) := by decide +kernel
theorem dX8_odds_23 : decode cX8_odds 23 = .ok (.invokestatic 92, 3) := by decide +kernel
theorem dX8_odds_26 : decode cX8_odds 26 = .ok (.ifCond .eq 13, 3) := by decide +kernel
theorem dX8_odds_29 : decode cX8_odds 29 = .ok (.iload 4, 2) := by decide +kernel
theorem dX8_odds_31 : decode cX8_odds 31 = .ok (.iconst 0, 1) := by decide +kernel
theorem dX8_odds_32 : decode cX8_odds 32 = .ok (.iconst 1, 1) := by decide +kernel
theorem dX8_odds_33 : decode cX8_odds 33 = .ok (.invokestatic 92, 3) := by decide +kernel
theorem dX8_odds_36 : decode cX8_odds 36 = .ok (.ifCond .ne 5, 3) := by decide +kernel
theorem dX8_odds_39 : decode cX8_odds 39 = .ok (.iconst (-1), 1) := by decide +kernel
theorem dX8_odds_40 : decode cX8_odds 40 = .ok (.ireturn, 1) := by decide +kernel
theorem dX8_odds_41 : decode cX8_odds 41 = .ok (.iconst 0, 1) := by decide +kernel
theorem dX8_odds_42 : decode cX8_odds 42 = .ok (.istore 5, 2) := by decide +kernel
theorem dX8_odds_44 : decode cX8_odds 44 = .ok (.iconst 1, 1) := by decide +kernel
theorem dX8_odds_45 : decode cX8_odds 45 = .ok (.istore 6, 2) := by decide +kernel
theorem dX8_odds_47 : decode cX8_odds 47 = .ok (.iconst 0, 1) := by decide +kernel
theorem dX8_odds_48 : decode cX8_odds 48 = .ok (.istore 7, 2) := by decide +kernel
theorem dX8_odds_50 : decode cX8_odds 50 = .ok (.iload 7, 2) := by decide +kernel
theorem dX8_odds_52 : decode cX8_odds 52 = .ok (.iload_n 1, 1) := by decide +kernel
theorem dX8_odds_53 : decode cX8_odds 53 = .ok (.if_icmp .ge 16, 3) := by decide +kernel
theorem dX8_odds_56 : decode cX8_odds 56 = .ok (.iload 6, 2) := by decide +kernel
theorem dX8_odds_58 : decode cX8_odds 58 = .ok (.bipush 10, 2) := by decide +kernel
theorem dX8_odds_60 : decode cX8_odds 60 = .ok (.imul, 1) := by decide +kernel
theorem dX8_odds_61 : decode cX8_odds 61 = .ok (.istore 6, 2) := by decide +kernel
theorem dX8_odds_63 : decode cX8_odds 63 = .ok (.iinc 7 1, 3) := by decide +kernel
theorem dX8_odds_66 : decode cX8_odds 66 = .ok (.goto (-16), 3) := by decide +kernel
theorem dX8_odds_69 : decode cX8_odds 69 = .ok (.iconst 0, 1) := by decide +kernel
theorem dX8_odds_70 : decode cX8_odds 70 = .ok (.istore 7, 2) := by decide +kernel
theorem dX8_odds_72 : decode cX8_odds 72 = .ok (.iload 7, 2) := by decide +kernel
theorem dX8_odds_74 : decode cX8_odds 74 = .ok (.iconst 1, 1) := by decide +kernel
theorem dX8_odds_75 : decode cX8_odds 75 = .ok (.iload_n 1, 1) := by decide +kernel
theorem dX8_odds_76 : decode cX8_odds 76 = .ok (.ishl, 1) := by decide +kernel
theorem dX8_odds_77 : decode cX8_odds 77 = .ok (.if_icmp .ge 32, 3) := by decide +kernel
theorem dX8_odds_80 : decode cX8_odds 80 = .ok (.aload_n 0, 1) := by decide +kernel
theorem dX8_odds_81 : decode cX8_odds 81 = .ok (.iload 7, 2) := by decide +kernel
theorem dX8_odds_83 : decode cX8_odds 83 = .ok (.iload_n 1, 1) := by decide +kernel
theorem dX8_odds_84 : decode cX8_odds 84 = .ok (.iload_n 2, 1) := by decide +kernel
theorem dX8_odds_85 : decode cX8_odds 85 = .ok (.invokevirtual 276, 3) := by decide +kernel
theorem dX8_odds_88 : decode cX8_odds 88 = .ok (.ifCond .eq 15, 3) := by decide +kernel
theorem dX8_odds_91 : decode cX8_odds 91 = .ok (.iload 5, 2) := by decide +kernel
theorem dX8_odds_93 : decode cX8_odds 93 = .ok (.iload 7, 2) := by decide +kernel
theorem dX8_odds_95 : decode cX8_odds 95 = .ok (.iload_n 1, 1) := by decide +kernel
theorem dX8_odds_96 : decode cX8_odds 96 = .ok (.iload_n 3, 1) := by decide +kernel
theorem dX8_odds_97 : decode cX8_odds 97 = .ok (.invokestatic 279, 3) := by decide +kernel
theorem dX8_odds_100 : decode cX8_odds 100 = .ok (.iadd, 1) := by decide +kernel
theorem dX8_odds_101 : decode cX8_odds 101 = .ok (.istore 5, 2) := by decide +kernel
theorem dX8_odds_103 : decode cX8_odds 103 = .ok (.iinc 7 1, 3) := by decide +kernel
theorem dX8_odds_106 : decode cX8_odds 106 = .ok (.goto (-34), 3) := by decide +kernel
theorem dX8_odds_109 : decode cX8_odds 109 = .ok (.iload 5, 2) := by decide +kernel
theorem dX8_odds_111 : decode cX8_odds 111 = .ok (.iload 6, 2) := by decide +kernel
theorem dX8_odds_113 : decode cX8_odds 113 = .ok (.invokestatic 282, 3) := by decide +kernel
theorem dX8_odds_116 : decode cX8_odds 116 = .ok (.istore 7, 2) := by decide +kernel
theorem dX8_odds_118 : decode cX8_odds 118 = .ok (.iload 7, 2) := by decide +kernel
theorem dX8_odds_120 : decode cX8_odds 120 = .ok (.iconst 1, 1) := by decide +kernel
theorem dX8_odds_121 : decode cX8_odds 121 = .ok (.if_icmp .ge 5, 3) := by decide +kernel
theorem dX8_odds_124 : decode cX8_odds 124 = .ok (.iconst (-1), 1) := by decide +kernel
theorem dX8_odds_125 : decode cX8_odds 125 = .ok (.ireturn, 1) := by decide +kernel
theorem dX8_odds_126 : decode cX8_odds 126 = .ok (.iload 4, 2) := by decide +kernel
theorem dX8_odds_128 : decode cX8_odds 128 = .ok (.ifCond .ne 11, 3) := by decide +kernel
theorem dX8_odds_131 : decode cX8_odds 131 = .ok (.iload 5, 2) := by decide +kernel
theorem dX8_odds_133 : decode cX8_odds 133 = .ok (.iload 7, 2) := by decide +kernel
theorem dX8_odds_135 : decode cX8_odds 135 = .ok (.idiv, 1) := by decide +kernel
theorem dX8_odds_136 : decode cX8_odds 136 = .ok (.goto 8, 3) := by decide +kernel
theorem dX8_odds_139 : decode cX8_odds 139 = .ok (.iload 6, 2) := by decide +kernel
theorem dX8_odds_141 : decode cX8_odds 141 = .ok (.iload 7, 2) := by decide +kernel
theorem dX8_odds_143 : decode cX8_odds 143 = .ok (.idiv, 1) := by decide +kernel
theorem dX8_odds_144 : decode cX8_odds 144 = .ok (.ireturn, 1) := by decide +kernel
theorem dX8_holdsIn_0 : decode cX8_holdsIn 0 = .ok (.aload_n 0, 1) := by decide +kernel
theorem dX8_holdsIn_1 : decode cX8_holdsIn 1 = .ok (.getfield 35, 3) := by decide +kernel
theorem dX8_holdsIn_4 : decode cX8_holdsIn 4 = .ok (.aload_n 0, 1) := by decide +kernel
theorem dX8_holdsIn_5 : decode cX8_holdsIn 5 = .ok (.getfield 31, 3) := by decide +kernel
theorem dX8_holdsIn_8 : decode cX8_holdsIn 8 = .ok (.invokevirtual 186, 3) := by decide +kernel
theorem dX8_holdsIn_11 : decode cX8_holdsIn 11 = .ok (.aload_n 0, 1) := by decide +kernel
theorem dX8_holdsIn_12 : decode cX8_holdsIn 12 = .ok (.getfield 35, 3) := by decide +kernel
theorem dX8_holdsIn_15 : decode cX8_holdsIn 15 = .ok (.invokevirtual 285, 3) := by decide +kernel
theorem dX8_holdsIn_18 : decode cX8_holdsIn 18 = .ok (.istore 4, 2) := by decide +kernel
theorem dX8_holdsIn_20 : decode cX8_holdsIn 20 = .ok (.iconst 0, 1) := by decide +kernel
theorem dX8_holdsIn_21 : decode cX8_holdsIn 21 = .ok (.istore 5, 2) := by decide +kernel
theorem dX8_holdsIn_23 : decode cX8_holdsIn 23 = .ok (.iload 5, 2) := by decide +kernel
theorem dX8_holdsIn_25 : decode cX8_holdsIn 25 = .ok (.iload_n 2, 1) := by decide +kernel
theorem dX8_holdsIn_26 : decode cX8_holdsIn 26 = .ok (.if_icmp .ge 33, 3) := by decide +kernel
theorem dX8_holdsIn_29 : decode cX8_holdsIn 29 = .ok (.aload_n 0, 1) := by decide +kernel
theorem dX8_holdsIn_30 : decode cX8_holdsIn 30 = .ok (.getfield 35, 3) := by decide +kernel
theorem dX8_holdsIn_33 : decode cX8_holdsIn 33 = .ok (.bipush 10, 2) := by decide +kernel
theorem dX8_holdsIn_35 : decode cX8_holdsIn 35 = .ok (.iload_n 1, 1) := by decide +kernel
theorem dX8_holdsIn_36 : decode cX8_holdsIn 36 = .ok (.iload 5, 2) := by decide +kernel
theorem dX8_holdsIn_38 : decode cX8_holdsIn 38 = .ok (.ishr, 1) := by decide +kernel
theorem dX8_holdsIn_39 : decode cX8_holdsIn 39 = .ok (.iconst 1, 1) := by decide +kernel
theorem dX8_holdsIn_40 : decode cX8_holdsIn 40 = .ok (.iand, 1) := by decide +kernel
theorem dX8_holdsIn_41 : decode cX8_holdsIn 41 = .ok (.iconst 1, 1) := by decide +kernel
theorem dX8_holdsIn_42 : decode cX8_holdsIn 42 = .ok (.if_icmp .ne 7, 3) := by decide +kernel
theorem dX8_holdsIn_45 : decode cX8_holdsIn 45 = .ok (.iload_n 3, 1) := by decide +kernel
theorem dX8_holdsIn_46 : decode cX8_holdsIn 46 = .ok (.goto 4, 3) := by decide +kernel
theorem dX8_holdsIn_49 : decode cX8_holdsIn 49 = .ok (.iconst 0, 1) := by decide +kernel
theorem dX8_holdsIn_50 : decode cX8_holdsIn 50 = .ok (.invokevirtual 175, 3) := by decide +kernel
theorem dX8_holdsIn_53 : decode cX8_holdsIn 53 = .ok (.iinc 5 1, 3) := by decide +kernel
theorem dX8_holdsIn_56 : decode cX8_holdsIn 56 = .ok (.goto (-33), 3) := by decide +kernel
theorem dX8_holdsIn_59 : decode cX8_holdsIn 59 = .ok (.aload_n 0, 1) := by decide +kernel
theorem dX8_holdsIn_60 : decode cX8_holdsIn 60 = .ok (.getfield 35, 3) := by decide +kernel
theorem dX8_holdsIn_63 : decode cX8_holdsIn 63 = .ok (.invokevirtual 285, 3) := by decide +kernel
theorem dX8_holdsIn_66 : decode cX8_holdsIn 66 = .ok (.iload 4, 2) := by decide +kernel
theorem dX8_holdsIn_68 : decode cX8_holdsIn 68 = .ok (.if_icmp .ne 7, 3) := by decide +kernel
theorem dX8_holdsIn_71 : decode cX8_holdsIn 71 = .ok (.iconst 1, 1) := by decide +kernel
theorem dX8_holdsIn_72 : decode cX8_holdsIn 72 = .ok (.goto 4, 3) := by decide +kernel
theorem dX8_holdsIn_75 : decode cX8_holdsIn 75 = .ok (.iconst 0, 1) := by decide +kernel
theorem dX8_holdsIn_76 : decode cX8_holdsIn 76 = .ok (.ireturn, 1) := by decide +kernel
theorem dX8_chanceOf_0 : decode cX8_chanceOf 0 = .ok (.iconst 1, 1) := by decide +kernel
theorem dX8_chanceOf_1 : decode cX8_chanceOf 1 = .ok (.istore_n 3, 1) := by decide +kernel
theorem dX8_chanceOf_2 : decode cX8_chanceOf 2 = .ok (.iconst 0, 1) := by decide +kernel
theorem dX8_chanceOf_3 : decode cX8_chanceOf 3 = .ok (.istore 4, 2) := by decide +kernel
theorem dX8_chanceOf_5 : decode cX8_chanceOf 5 = .ok (.iload 4, 2) := by decide +kernel
theorem dX8_chanceOf_7 : decode cX8_chanceOf 7 = .ok (.iload_n 1, 1) := by decide +kernel
theorem dX8_chanceOf_8 : decode cX8_chanceOf 8 = .ok (.if_icmp .ge 30, 3) := by decide +kernel
theorem dX8_chanceOf_11 : decode cX8_chanceOf 11 = .ok (.iload_n 3, 1) := by decide +kernel
theorem dX8_chanceOf_12 : decode cX8_chanceOf 12 = .ok (.iload_n 0, 1) := by decide +kernel
theorem dX8_chanceOf_13 : decode cX8_chanceOf 13 = .ok (.iload 4, 2) := by decide +kernel
theorem dX8_chanceOf_15 : decode cX8_chanceOf 15 = .ok (.ishr, 1) := by decide +kernel
theorem dX8_chanceOf_16 : decode cX8_chanceOf 16 = .ok (.iconst 1, 1) := by decide +kernel
theorem dX8_chanceOf_17 : decode cX8_chanceOf 17 = .ok (.iand, 1) := by decide +kernel
theorem dX8_chanceOf_18 : decode cX8_chanceOf 18 = .ok (.iconst 1, 1) := by decide +kernel
theorem dX8_chanceOf_19 : decode cX8_chanceOf 19 = .ok (.if_icmp .ne 7, 3) := by decide +kernel
theorem dX8_chanceOf_22 : decode cX8_chanceOf 22 = .ok (.iload_n 2, 1) := by decide +kernel
theorem dX8_chanceOf_23 : decode cX8_chanceOf 23 = .ok (.goto 7, 3) := by decide +kernel
theorem dX8_chanceOf_26 : decode cX8_chanceOf 26 = .ok (.bipush 10, 2) := by decide +kernel
theorem dX8_chanceOf_28 : decode cX8_chanceOf 28 = .ok (.iload_n 2, 1) := by decide +kernel
theorem dX8_chanceOf_29 : decode cX8_chanceOf 29 = .ok (.isub, 1) := by decide +kernel
theorem dX8_chanceOf_30 : decode cX8_chanceOf 30 = .ok (.imul, 1) := by decide +kernel
theorem dX8_chanceOf_31 : decode cX8_chanceOf 31 = .ok (.istore_n 3, 1) := by decide +kernel
theorem dX8_chanceOf_32 : decode cX8_chanceOf 32 = .ok (.iinc 4 1, 3) := by decide +kernel
theorem dX8_chanceOf_35 : decode cX8_chanceOf 35 = .ok (.goto (-30), 3) := by decide +kernel
theorem dX8_chanceOf_38 : decode cX8_chanceOf 38 = .ok (.iload_n 3, 1) := by decide +kernel
theorem dX8_chanceOf_39 : decode cX8_chanceOf 39 = .ok (.ireturn, 1) := by decide +kernel
theorem dX8_greatestDivisor_0 : decode cX8_greatestDivisor 0 = .ok (.iload_n 0, 1) := by decide +kernel
theorem dX8_greatestDivisor_1 : decode cX8_greatestDivisor 1 = .ok (.istore_n 2, 1) := by decide +kernel
theorem dX8_greatestDivisor_2 : decode cX8_greatestDivisor 2 = .ok (.iload_n 1, 1) := by decide +kernel
theorem dX8_greatestDivisor_3 : decode cX8_greatestDivisor 3 = .ok (.istore_n 3, 1) := by decide +kernel
theorem dX8_greatestDivisor_4 : decode cX8_greatestDivisor 4 = .ok (.iconst 0, 1) := by decide +kernel
theorem dX8_greatestDivisor_5 : decode cX8_greatestDivisor 5 = .ok (.istore 4, 2) := by decide +kernel
theorem dX8_greatestDivisor_7 : decode cX8_greatestDivisor 7 = .ok (.iload 4, 2) := by decide +kernel
theorem dX8_greatestDivisor_9 : decode cX8_greatestDivisor 9 = .ok (.bipush 100, 2) := by decide +kernel
theorem dX8_greatestDivisor_11 : decode cX8_greatestDivisor 11 = .ok (.if_icmp .ge 23, 3) := by decide +kernel
theorem dX8_greatestDivisor_14 : decode cX8_greatestDivisor 14 = .ok (.iload_n 3, 1) := by decide +kernel
theorem dX8_greatestDivisor_15 : decode cX8_greatestDivisor 15 = .ok (.ifCond .eq 19, 3) := by decide +kernel
theorem dX8_greatestDivisor_18 : decode cX8_greatestDivisor 18 = .ok (.iload_n 2, 1) := by decide +kernel
theorem dX8_greatestDivisor_19 : decode cX8_greatestDivisor 19 = .ok (.iload_n 3, 1) := by decide +kernel
theorem dX8_greatestDivisor_20 : decode cX8_greatestDivisor 20 = .ok (.irem, 1) := by decide +kernel
theorem dX8_greatestDivisor_21 : decode cX8_greatestDivisor 21 = .ok (.istore 5, 2) := by decide +kernel
theorem dX8_greatestDivisor_23 : decode cX8_greatestDivisor 23 = .ok (.iload_n 3, 1) := by decide +kernel
theorem dX8_greatestDivisor_24 : decode cX8_greatestDivisor 24 = .ok (.istore_n 2, 1) := by decide +kernel
theorem dX8_greatestDivisor_25 : decode cX8_greatestDivisor 25 = .ok (.iload 5, 2) := by decide +kernel
theorem dX8_greatestDivisor_27 : decode cX8_greatestDivisor 27 = .ok (.istore_n 3, 1) := by decide +kernel
theorem dX8_greatestDivisor_28 : decode cX8_greatestDivisor 28 = .ok (.iinc 4 1, 3) := by decide +kernel
theorem dX8_greatestDivisor_31 : decode cX8_greatestDivisor 31 = .ok (.goto (-24), 3) := by decide +kernel
theorem dX8_greatestDivisor_34 : decode cX8_greatestDivisor 34 = .ok (.iload_n 2, 1) := by decide +kernel
theorem dX8_greatestDivisor_35 : decode cX8_greatestDivisor 35 = .ok (.ireturn, 1) := by decide +kernel
theorem dX8_night_0 : decode cX8_night 0 = .ok (.iload_n 1, 1) := by decide +kernel
theorem dX8_night_1 : decode cX8_night 1 = .ok (.iconst 0, 1) := by decide +kernel
theorem dX8_night_2 : decode cX8_night 2 = .ok (.sipush 9999, 3) := by decide +kernel
theorem dX8_night_5 : decode cX8_night 5 = .ok (.invokestatic 92, 3) := by decide +kernel
theorem dX8_night_8 : decode cX8_night 8 = .ok (.ifCond .eq 12, 3) := by decide +kernel
theorem dX8_night_11 : decode cX8_night 11 = .ok (.iload_n 2, 1) := by decide +kernel
theorem dX8_night_12 : decode cX8_night 12 = .ok (.iconst 0, 1) := by decide +kernel
theorem dX8_night_13 : decode cX8_night 13 = .ok (.iconst 1, 1) := by decide +kernel
theorem dX8_night_14 : decode cX8_night 14 = .ok (.invokestatic 92, 3) := by decide +kernel
theorem dX8_night_17 : decode cX8_night 17 = .ok (.ifCond .ne 5, 3) := by decide +kernel
theorem dX8_night_20 : decode cX8_night 20 = .ok (.iconst (-1), 1) := by decide +kernel
theorem dX8_night_21 : decode cX8_night 21 = .ok (.ireturn, 1) := by decide +kernel
theorem dX8_night_22 : decode cX8_night 22 = .ok (.aload_n 0, 1) := by decide +kernel
theorem dX8_night_23 : decode cX8_night 23 = .ok (.getfield 35, 3) := by decide +kernel
theorem dX8_night_26 : decode cX8_night 26 = .ok (.aload_n 0, 1) := by decide +kernel
theorem dX8_night_27 : decode cX8_night 27 = .ok (.getfield 31, 3) := by decide +kernel
theorem dX8_night_30 : decode cX8_night 30 = .ok (.invokevirtual 186, 3) := by decide +kernel
theorem dX8_night_33 : decode cX8_night 33 = .ok (.iconst 1, 1) := by decide +kernel
theorem dX8_night_34 : decode cX8_night 34 = .ok (.istore_n 3, 1) := by decide +kernel
theorem dX8_night_35 : decode cX8_night 35 = .ok (.iload_n 3, 1) := by decide +kernel
theorem dX8_night_36 : decode cX8_night 36 = .ok (.bipush 60, 2) := by decide +kernel
theorem dX8_night_38 : decode cX8_night 38 = .ok (.if_icmp .gt 21, 3) := by decide +kernel
theorem dX8_night_41 : decode cX8_night 41 = .ok (.aload_n 0, 1) := by decide +kernel
theorem dX8_night_42 : decode cX8_night 42 = .ok (.getfield 35, 3) := by decide +kernel
theorem dX8_night_45 : decode cX8_night 45 = .ok (.iload_n 1, 1) := by decide +kernel
theorem dX8_night_46 : decode cX8_night 46 = .ok (.iload_n 3, 1) := by decide +kernel
theorem dX8_night_47 : decode cX8_night 47 = .ok (.invokestatic 288, 3) := by decide +kernel
theorem dX8_night_50 : decode cX8_night 50 = .ok (.invokevirtual 229, 3) := by decide +kernel
theorem dX8_night_53 : decode cX8_night 53 = .ok (.iinc 3 1, 3) := by decide +kernel
theorem dX8_night_56 : decode cX8_night 56 = .ok (.goto (-21), 3) := by decide +kernel
theorem dX8_night_59 : decode cX8_night 59 = .ok (.iload_n 2, 1) := by decide +kernel
theorem dX8_night_60 : decode cX8_night 60 = .ok (.ifCond .ne 13, 3) := by decide +kernel
theorem dX8_night_63 : decode cX8_night 63 = .ok (.aload_n 0, 1) := by decide +kernel
theorem dX8_night_64 : decode cX8_night 64 = .ok (.getfield 35, 3) := by decide +kernel
theorem dX8_night_67 : decode cX8_night 67 = .ok (.invokevirtual 124, 3) := by decide +kernel
theorem dX8_night_70 : decode cX8_night 70 = .ok (.goto 18, 3) := by decide +kernel
theorem dX8_night_73 : decode cX8_night 73 = .ok (.aload_n 0, 1) := by decide +kernel
theorem dX8_night_74 : decode cX8_night 74 = .ok (.getfield 35, 3) := by decide +kernel
theorem dX8_night_77 : decode cX8_night 77 = .ok (.invokevirtual 285, 3) := by decide +kernel
theorem dX8_night_80 : decode cX8_night 80 = .ok (.aload_n 0, 1) := by decide +kernel
theorem dX8_night_81 : decode cX8_night 81 = .ok (.getfield 31, 3) := by decide +kernel
theorem dX8_night_84 : decode cX8_night 84 = .ok (.invokevirtual 285, 3) := by decide +kernel
theorem dX8_night_87 : decode cX8_night 87 = .ok (.isub, 1) := by decide +kernel
theorem dX8_night_88 : decode cX8_night 88 = .ok (.ireturn, 1) := by decide +kernel
theorem dX8_drawOf_0 : decode cX8_drawOf 0 = .ok (.ldc2_w 291, 3) := by decide +kernel
theorem dX8_drawOf_3 : decode cX8_drawOf 3 = .ok (.iload_n 0, 1) := by decide +kernel
theorem dX8_drawOf_4 : decode cX8_drawOf 4 = .ok (.i2l, 1) := by decide +kernel
theorem dX8_drawOf_5 : decode cX8_drawOf 5 = .ok (.lmul, 1) := by decide +kernel
theorem dX8_drawOf_6 : decode cX8_drawOf 6 = .ok (.ldc2_w 293, 3) := by decide +kernel
theorem dX8_drawOf_9 : decode cX8_drawOf 9 = .ok (.iload_n 1, 1) := by decide +kernel
theorem dX8_drawOf_10 : decode cX8_drawOf 10 = .ok (.i2l, 1) := by decide +kernel
theorem dX8_drawOf_11 : decode cX8_drawOf 11 = .ok (.lmul, 1) := by decide +kernel
theorem dX8_drawOf_12 : decode cX8_drawOf 12 = .ok (.ladd, 1) := by decide +kernel
theorem dX8_drawOf_13 : decode cX8_drawOf 13 = .ok (.lconst 1, 1) := by decide +kernel
theorem dX8_drawOf_14 : decode cX8_drawOf 14 = .ok (.ladd, 1) := by decide +kernel
theorem dX8_drawOf_15 : decode cX8_drawOf 15 = .ok (.lstore_n 2, 1) := by decide +kernel
theorem dX8_drawOf_16 : decode cX8_drawOf 16 = .ok (.lload_n 2, 1) := by decide +kernel
theorem dX8_drawOf_17 : decode cX8_drawOf 17 = .ok (.lload_n 2, 1) := by decide +kernel
theorem dX8_drawOf_18 : decode cX8_drawOf 18 = .ok (.lmul, 1) := by decide +kernel
theorem dX8_drawOf_19 : decode cX8_drawOf 19 = .ok (.ldc2_w 295, 3) := by decide +kernel
theorem dX8_drawOf_22 : decode cX8_drawOf 22 = .ok (.lrem, 1) := by decide +kernel
theorem dX8_drawOf_23 : decode cX8_drawOf 23 = .ok (.ldc2_w 297, 3) := by decide +kernel
theorem dX8_drawOf_26 : decode cX8_drawOf 26 = .ok (.lrem, 1) := by decide +kernel
theorem dX8_drawOf_27 : decode cX8_drawOf 27 = .ok (.l2i, 1) := by decide +kernel
theorem dX8_drawOf_28 : decode cX8_drawOf 28 = .ok (.ireturn, 1) := by decide +kernel
theorem dX8_keep_0 : decode cX8_keep 0 = .ok (.aload_n 0, 1) := by decide +kernel
theorem dX8_keep_1 : decode cX8_keep 1 = .ok (.getfield 103, 3) := by decide +kernel
theorem dX8_keep_4 : decode cX8_keep 4 = .ok (.ifCond .lt 11, 3) := by decide +kernel
theorem dX8_keep_7 : decode cX8_keep 7 = .ok (.aload_n 0, 1) := by decide +kernel
theorem dX8_keep_8 : decode cX8_keep 8 = .ok (.getfield 103, 3) := by decide +kernel
theorem dX8_keep_11 : decode cX8_keep 11 = .ok (.iconst 2, 1) := by decide +kernel
theorem dX8_keep_12 : decode cX8_keep 12 = .ok (.if_icmp .lt 6, 3) := by decide +kernel
theorem dX8_keep_15 : decode cX8_keep 15 = .ok (.bipush (-3), 2) := by decide +kernel
theorem dX8_keep_17 : decode cX8_keep 17 = .ok (.ireturn, 1) := by decide +kernel
theorem dX8_keep_18 : decode cX8_keep 18 = .ok (.aload_n 0, 1) := by decide +kernel
theorem dX8_keep_19 : decode cX8_keep 19 = .ok (.getfield 45, 3) := by decide +kernel
theorem dX8_keep_22 : decode cX8_keep 22 = .ok (.aload_n 0, 1) := by decide +kernel
theorem dX8_keep_23 : decode cX8_keep 23 = .ok (.getfield 103, 3) := by decide +kernel
theorem dX8_keep_26 : decode cX8_keep 26 = .ok (.aaload, 1) := by decide +kernel
theorem dX8_keep_27 : decode cX8_keep 27 = .ok (.aload_n 0, 1) := by decide +kernel
theorem dX8_keep_28 : decode cX8_keep 28 = .ok (.getfield 41, 3) := by decide +kernel
theorem dX8_keep_31 : decode cX8_keep 31 = .ok (.invokevirtual 299, 3) := by decide +kernel
theorem dX8_keep_34 : decode cX8_keep 34 = .ok (.aload_n 0, 1) := by decide +kernel
theorem dX8_keep_35 : decode cX8_keep 35 = .ok (.dup, 1) := by decide +kernel
theorem dX8_keep_36 : decode cX8_keep 36 = .ok (.getfield 103, 3) := by decide +kernel
theorem dX8_keep_39 : decode cX8_keep 39 = .ok (.iconst 1, 1) := by decide +kernel
theorem dX8_keep_40 : decode cX8_keep 40 = .ok (.iadd, 1) := by decide +kernel
theorem dX8_keep_41 : decode cX8_keep 41 = .ok (.putfield 103, 3) := by decide +kernel
theorem dX8_keep_44 : decode cX8_keep 44 = .ok (.aload_n 0, 1) := by decide +kernel
theorem dX8_keep_45 : decode cX8_keep 45 = .ok (.getfield 103, 3) := by decide +kernel
theorem dX8_keep_48 : decode cX8_keep 48 = .ok (.ireturn, 1) := by decide +kernel
theorem dX8_back_0 : decode cX8_back 0 = .ok (.aload_n 0, 1) := by decide +kernel
theorem dX8_back_1 : decode cX8_back 1 = .ok (.getfield 103, 3) := by decide +kernel
theorem dX8_back_4 : decode cX8_back 4 = .ok (.iconst 1, 1) := by decide +kernel
theorem dX8_back_5 : decode cX8_back 5 = .ok (.if_icmp .lt 11, 3) := by decide +kernel
theorem dX8_back_8 : decode cX8_back 8 = .ok (.aload_n 0, 1) := by decide +kernel
theorem dX8_back_9 : decode cX8_back 9 = .ok (.getfield 103, 3) := by decide +kernel
theorem dX8_back_12 : decode cX8_back 12 = .ok (.iconst 2, 1) := by decide +kernel
theorem dX8_back_13 : decode cX8_back 13 = .ok (.if_icmp .le 6, 3) := by decide +kernel
theorem dX8_back_16 : decode cX8_back 16 = .ok (.bipush (-2), 2) := by decide +kernel
theorem dX8_back_18 : decode cX8_back 18 = .ok (.ireturn, 1) := by decide +kernel
theorem dX8_back_19 : decode cX8_back 19 = .ok (.aload_n 0, 1) := by decide +kernel
theorem dX8_back_20 : decode cX8_back 20 = .ok (.dup, 1) := by decide +kernel
theorem dX8_back_21 : decode cX8_back 21 = .ok (.getfield 103, 3) := by decide +kernel
theorem dX8_back_24 : decode cX8_back 24 = .ok (.iconst 1, 1) := by decide +kernel
theorem dX8_back_25 : decode cX8_back 25 = .ok (.isub, 1) := by decide +kernel
theorem dX8_back_26 : decode cX8_back 26 = .ok (.putfield 103, 3) := by decide +kernel
theorem dX8_back_29 : decode cX8_back 29 = .ok (.aload_n 0, 1) := by decide +kernel
theorem dX8_back_30 : decode cX8_back 30 = .ok (.getfield 41, 3) := by decide +kernel
theorem dX8_back_33 : decode cX8_back 33 = .ok (.aload_n 0, 1) := by decide +kernel
theorem dX8_back_34 : decode cX8_back 34 = .ok (.getfield 45, 3) := by decide +kernel
theorem dX8_back_37 : decode cX8_back 37 = .ok (.aload_n 0, 1) := by decide +kernel
theorem dX8_back_38 : decode cX8_back 38 = .ok (.getfield 103, 3) := by decide +kernel
theorem dX8_back_41 : decode cX8_back 41 = .ok (.aaload, 1) := by decide +kernel
theorem dX8_back_42 : decode cX8_back 42 = .ok (.invokevirtual 299, 3) := by decide +kernel
theorem dX8_back_45 : decode cX8_back 45 = .ok (.aload_n 0, 1) := by decide +kernel
theorem dX8_back_46 : decode cX8_back 46 = .ok (.getfield 41, 3) := by decide +kernel
theorem dX8_back_49 : decode cX8_back 49 = .ok (.bipush (-4), 2) := by decide +kernel
theorem dX8_back_51 : decode cX8_back 51 = .ok (.aload_n 0, 1) := by decide +kernel
theorem dX8_back_52 : decode cX8_back 52 = .ok (.getfield 31, 3) := by decide +kernel
theorem dX8_back_55 : decode cX8_back 55 = .ok (.invokevirtual 182, 3) := by decide +kernel
theorem dX8_back_58 : decode cX8_back 58 = .ok (.aload_n 0, 1) := by decide +kernel
theorem dX8_back_59 : decode cX8_back 59 = .ok (.getfield 103, 3) := by decide +kernel
theorem dX8_back_62 : decode cX8_back 62 = .ok (.ireturn, 1) := by decide +kernel
theorem dX8_count_0 : decode cX8_count 0 = .ok (.iload_n 1, 1) := by decide +kernel
theorem dX8_count_1 : decode cX8_count 1 = .ok (.tableswitch 102 0 6 #[43, 51, 62, 73, 81, 89, 94], 43) := by decide +kernel
theorem dX8_count_44 : decode cX8_count 44 = .ok (.aload_n 0, 1) := by decide +kernel
theorem dX8_count_45 : decode cX8_count 45 = .ok (.getfield 19, 3) := by decide +kernel
theorem dX8_count_48 : decode cX8_count 48 = .ok (.invokevirtual 99, 3) := by decide +kernel
theorem dX8_count_51 : decode cX8_count 51 = .ok (.ireturn, 1) := by decide +kernel
theorem dX8_count_52 : decode cX8_count 52 = .ok (.aload_n 0, 1) := by decide +kernel
theorem dX8_count_53 : decode cX8_count 53 = .ok (.getfield 19, 3) := by decide +kernel
theorem dX8_count_56 : decode cX8_count 56 = .ok (.invokevirtual 236, 3) := by decide +kernel
theorem dX8_count_59 : decode cX8_count 59 = .ok (.invokevirtual 302, 3) := by decide +kernel
theorem dX8_count_62 : decode cX8_count 62 = .ok (.ireturn, 1) := by decide +kernel
theorem dX8_count_63 : decode cX8_count 63 = .ok (.aload_n 0, 1) := by decide +kernel
theorem dX8_count_64 : decode cX8_count 64 = .ok (.getfield 19, 3) := by decide +kernel
theorem dX8_count_67 : decode cX8_count 67 = .ok (.invokevirtual 236, 3) := by decide +kernel
theorem dX8_count_70 : decode cX8_count 70 = .ok (.invokevirtual 240, 3) := by decide +kernel
theorem dX8_count_73 : decode cX8_count 73 = .ok (.ireturn, 1) := by decide +kernel
theorem dX8_count_74 : decode cX8_count 74 = .ok (.aload_n 0, 1) := by decide +kernel
theorem dX8_count_75 : decode cX8_count 75 = .ok (.getfield 41, 3) := by decide +kernel
theorem dX8_count_78 : decode cX8_count 78 = .ok (.invokevirtual 178, 3) := by decide +kernel
theorem dX8_count_81 : decode cX8_count 81 = .ok (.ireturn, 1) := by decide +kernel
theorem dX8_count_82 : decode cX8_count 82 = .ok (.aload_n 0, 1) := by decide +kernel
theorem dX8_count_83 : decode cX8_count 83 = .ok (.getfield 52, 3) := by decide +kernel
theorem dX8_count_86 : decode cX8_count 86 = .ok (.invokevirtual 271, 3) := by decide +kernel
theorem dX8_count_89 : decode cX8_count 89 = .ok (.ireturn, 1) := by decide +kernel
theorem dX8_count_90 : decode cX8_count 90 = .ok (.aload_n 0, 1) := by decide +kernel
theorem dX8_count_91 : decode cX8_count 91 = .ok (.getfield 103, 3) := by decide +kernel
theorem dX8_count_94 : decode cX8_count 94 = .ok (.ireturn, 1) := by decide +kernel
theorem dX8_count_95 : decode cX8_count 95 = .ok (.aload_n 0, 1) := by decide +kernel
theorem dX8_count_96 : decode cX8_count 96 = .ok (.getfield 10, 3) := by decide +kernel
theorem dX8_count_99 : decode cX8_count 99 = .ok (.invokevirtual 96, 3) := by decide +kernel
theorem dX8_count_102 : decode cX8_count 102 = .ok (.ireturn, 1) := by decide +kernel
theorem dX8_count_103 : decode cX8_count 103 = .ok (.iconst (-1), 1) := by decide +kernel
theorem dX8_count_104 : decode cX8_count 104 = .ok (.ireturn, 1) := by decide +kernel
theorem dX8_isCell_0 : decode cX8_isCell 0 = .ok (.iload_n 1, 1) := by decide +kernel
theorem dX8_isCell_1 : decode cX8_isCell 1 = .ok (.iconst 0, 1) := by decide +kernel
theorem dX8_isCell_2 : decode cX8_isCell 2 = .ok (.aload_n 0, 1) := by decide +kernel
theorem dX8_isCell_3 : decode cX8_isCell 3 = .ok (.getfield 19, 3) := by decide +kernel
theorem dX8_isCell_6 : decode cX8_isCell 6 = .ok (.invokevirtual 99, 3) := by decide +kernel
theorem dX8_isCell_9 : decode cX8_isCell 9 = .ok (.iconst 1, 1) := by decide +kernel
theorem dX8_isCell_10 : decode cX8_isCell 10 = .ok (.isub, 1) := by decide +kernel
theorem dX8_isCell_11 : decode cX8_isCell 11 = .ok (.invokestatic 92, 3) := by decide +kernel
theorem dX8_isCell_14 : decode cX8_isCell 14 = .ok (.ireturn, 1) := by decide +kernel
theorem dX8_isStuff_0 : decode cX8_isStuff 0 = .ok (.iload_n 0, 1) := by decide +kernel
theorem dX8_isStuff_1 : decode cX8_isStuff 1 = .ok (.iconst 0, 1) := by decide +kernel
theorem dX8_isStuff_2 : decode cX8_isStuff 2 = .ok (.iconst 3, 1) := by decide +kernel
theorem dX8_isStuff_3 : decode cX8_isStuff 3 = .ok (.invokestatic 92, 3) := by decide +kernel
theorem dX8_isStuff_6 : decode cX8_isStuff 6 = .ok (.ireturn, 1) := by decide +kernel
theorem dX8_isWithin_0 : decode cX8_isWithin 0 = .ok (.iload_n 0, 1) := by decide +kernel
theorem dX8_isWithin_1 : decode cX8_isWithin 1 = .ok (.iload_n 1, 1) := by decide +kernel
theorem dX8_isWithin_2 : decode cX8_isWithin 2 = .ok (.if_icmp .lt 12, 3) := by decide +kernel
theorem dX8_isWithin_5 : decode cX8_isWithin 5 = .ok (.iload_n 0, 1) := by decide +kernel
theorem dX8_isWithin_6 : decode cX8_isWithin 6 = .ok (.iload_n 2, 1) := by decide +kernel
theorem dX8_isWithin_7 : decode cX8_isWithin 7 = .ok (.if_icmp .gt 7, 3) := by decide +kernel
theorem dX8_isWithin_10 : decode cX8_isWithin 10 = .ok (.iconst 1, 1) := by decide +kernel
theorem dX8_isWithin_11 : decode cX8_isWithin 11 = .ok (.goto 4, 3) := by decide +kernel
theorem dX8_isWithin_14 : decode cX8_isWithin 14 = .ok (.iconst 0, 1) := by decide +kernel
theorem dX8_isWithin_15 : decode cX8_isWithin 15 = .ok (.ireturn, 1) := by decide +kernel
end
section
def wX0_size (d : Nat) (σ : vv_S) (post : Int32 → vv_S → Prop) : Prop := post (σ d 4) σ
def wX0_clear (d : Nat) (σ : vv_S) (post : vv_S → Prop) : Prop := ∀ σ1 : vv_S, σ1 = vv_up σ d 4 (0 : Int32) → (post σ1)
def wX0_add (d : Nat) (a1 : Int32) (a2 : Int32) (a3 : Int32) (a4 : Int32) (σ : vv_S) (post : Int32 → vv_S → Prop) : Prop := vv_jn ((post (0 : Int32) σ)) (fun k16_0 : Prop => ((((σ d 4) < 0 → (k16_0)) ∧ (¬ (σ d 4) < 0 → ((((σ d 4) < (30 : Int32) → (vp_in (σ d 4) 30 ∧ (∀ σ5 : vv_S, σ5 = vv_up σ (d + 1) ((σ d 4)).toNatClampNeg a1 → (vp_in (σ5 d 4) 30 ∧ (∀ σ7 : vv_S, σ7 = vv_up σ5 (d + 2) ((σ5 d 4)).toNatClampNeg a2 → (vp_in (σ7 d 4) 30 ∧ (∀ σ9 : vv_S, σ9 = vv_up σ7 (d + 3) ((σ7 d 4)).toNatClampNeg a3 → (vp_in (σ9 d 4) 30 ∧ (∀ σ11 : vv_S, σ11 = vv_up σ9 (d + 4) ((σ9 d 4)).toNatClampNeg a4 → (∀ σ12 : vv_S, σ12 = vv_up σ11 d 4 ((σ11 d 4) + (1 : Int32)) → (post (1 : Int32) σ12))))))))))) ∧ (¬ (σ d 4) < (30 : Int32) → (k16_0))))))))
def wX0_dropLast (d : Nat) (σ : vv_S) (post : vv_S → Prop) : Prop := ∀ σ1 : vv_S, σ1 = vv_up σ d 4 (if (0 : Int32) < ((σ d 4) - (1 : Int32)) then ((σ d 4) - (1 : Int32)) else (0 : Int32)) → (post σ1)
def lX0_copyFrom_1 (k62_1 : vv_S → Prop) (d : Nat) (o1 : Nat) : Nat → Int32 → vv_S → Prop
  | 0, _, _ => False
  | n6 + 1, v4, σ5 => (((30 : Int32) ≤ v4 → (k62_1 σ5)) ∧ (¬ (30 : Int32) ≤ v4 → (vp_in v4 30 ∧ (vp_in v4 30 ∧ (∀ σ10 : vv_S, σ10 = vv_up σ5 (d + 1) v4.toNatClampNeg (σ5 (o1 + 1) v4.toNatClampNeg) → (vp_in v4 30 ∧ (vp_in v4 30 ∧ (∀ σ13 : vv_S, σ13 = vv_up σ10 (d + 2) v4.toNatClampNeg (σ10 (o1 + 2) v4.toNatClampNeg) → (vp_in v4 30 ∧ (vp_in v4 30 ∧ (∀ σ16 : vv_S, σ16 = vv_up σ13 (d + 3) v4.toNatClampNeg (σ13 (o1 + 3) v4.toNatClampNeg) → (vp_in v4 30 ∧ (vp_in v4 30 ∧ (∀ σ19 : vv_S, σ19 = vv_up σ16 (d + 4) v4.toNatClampNeg (σ16 (o1 + 4) v4.toNatClampNeg) → (∀ v20 : Int32, v20 = v4 + (1 : Int32) → (lX0_copyFrom_1 k62_1 d o1 n6 v20 σ19))))))))))))))))
def wX0_copyFrom (d : Nat) (o1 : Nat) (σ : vv_S) (post : vv_S → Prop) : Prop := vv_jn (fun (σ1 : vv_S) => (∀ σ3 : vv_S, σ3 = vv_up σ1 d 4 (σ1 o1 4) → (post σ3))) (fun k62_1 : vv_S → Prop => ((∃ n6 : Nat, lX0_copyFrom_1 k62_1 d o1 n6 (0 : Int32) σ)))
def wX4_left (d : Nat) (σ : vv_S) (post : Int32 → vv_S → Prop) : Prop := post (σ d 3) σ
def wX4_right (d : Nat) (σ : vv_S) (post : Int32 → vv_S → Prop) : Prop := post (σ d 4) σ
def wX4_cellCount (d : Nat) (σ : vv_S) (post : Int32 → vv_S → Prop) : Prop := post (σ d 2) σ
def wX4_takes (d : Nat) (a1 : Int32) (σ : vv_S) (post : Int32 → vv_S → Prop) : Prop := post (((σ d 5) * a1) + ((σ d 6) * ((a1 * (a1 + (1 : Int32))) / (2 : Int32)))) σ
def lX3_survey_1 (k166_16 : vv_S → Prop) (d : Nat) : Nat → Int32 → vv_S → Prop
  | 0, _, _ => False
  | n23 + 1, v21, σ22 => ((v21 < 0 → (k166_16 σ22)) ∧ (¬ v21 < 0 → (vp_in v21 8 ∧ (vv_jn (fun (σ26 : vv_S) => (vp_in v21 8 ∧ (vv_jn (fun (σ29 : vv_S) => (∀ v31 : Int32, v31 = v21 + (-1 : Int32) → (lX3_survey_1 k166_16 d n23 v31 σ29))) (fun k160_29 : vv_S → Prop => ((((σ26 (d + 1) v21.toNatClampNeg) ≤ 0 → (k160_29 σ26)) ∧ (¬ (σ26 (d + 1) v21.toNatClampNeg) ≤ 0 → (vp_in v21 8 ∧ (vv_jn (fun (v34 : Int32) => (∀ σ36 : vv_S, σ36 = vv_up σ26 d 11 ((σ26 d 11) + v34) → (vp_in v21 8 ∧ (vv_jn (fun (v38 : Int32) => (∀ σ40 : vv_S, σ40 = vv_up σ36 d 12 ((σ36 d 12) + v38) → (k160_29 σ40))) (fun k156_38 : Int32 → Prop => (((¬ (σ36 (d + 2) v21.toNatClampNeg) = (3 : Int32) → (k156_38 (0 : Int32))) ∧ ((σ36 (d + 2) v21.toNatClampNeg) = (3 : Int32) → (k156_38 (1 : Int32)))))))))) (fun k132_34 : Int32 → Prop => (((¬ (σ26 (d + 2) v21.toNatClampNeg) = (1 : Int32) → (k132_34 (0 : Int32))) ∧ ((σ26 (d + 2) v21.toNatClampNeg) = (1 : Int32) → (k132_34 (1 : Int32))))))))))))))) (fun k103_26 : vv_S → Prop => ((((σ22 d 8) < (σ22 (d + 1) v21.toNatClampNeg) → (k103_26 σ22)) ∧ (¬ (σ22 d 8) < (σ22 (d + 1) v21.toNatClampNeg) → (vp_in v21 8 ∧ (∀ σ45 : vv_S, σ45 = vv_up σ22 d 8 (σ22 (d + 1) v21.toNatClampNeg) → (∀ σ46 : vv_S, σ46 = vv_up σ45 d 9 v21 → (k103_26 σ46))))))))))))
def wX3_survey (d : Nat) (σ : vv_S) (post : vv_S → Prop) : Prop := (wX4_left 4 σ (fun (r2 : Int32) (σ1 : vv_S) => (((wX4_right 4 σ1 (fun (r4 : Int32) (σ3 : vv_S) => ((∀ σ5 : vv_S, σ5 = vv_up σ3 d 8 (if r4 < r2 then r4 else r2) → ((wX4_left 4 σ5 (fun (r7 : Int32) (σ6 : vv_S) => ((vv_jn (fun (v8 : Int32) => (∀ σ10 : vv_S, σ10 = vv_up σ6 d 9 v8 → (∀ σ11 : vv_S, σ11 = vv_up σ10 d 11 (0 : Int32) → (∀ σ12 : vv_S, σ12 = vv_up σ11 d 12 (0 : Int32) → ((wX4_cellCount 4 σ12 (fun (r14 : Int32) (σ13 : vv_S) => ((∀ v15 : Int32, v15 = ((if (8 : Int32) < r14 then (8 : Int32) else r14) - (1 : Int32)) → (vv_jn (fun (σ16 : vv_S) => ((wX4_takes 4 (σ16 d 8) σ16 (fun (r19 : Int32) (σ18 : vv_S) => ((∀ σ20 : vv_S, σ20 = vv_up σ18 d 10 r19 → (post σ20))))))) (fun k166_16 : vv_S → Prop => ((∃ n23 : Nat, lX3_survey_1 k166_16 d n23 v15 σ13))))))))))))) (fun k43_8 : Int32 → Prop => (((¬ (σ5 d 8) = r7 → (k43_8 (9 : Int32))) ∧ ((σ5 d 8) = r7 → (k43_8 (8 : Int32)))))))))))))))))))
def wX4_firstHeight (d : Nat) (a1 : Int32) (σ : vv_S) (post : Int32 → vv_S → Prop) : Prop := vv_jn (fun (v1 : Int32) => (post v1 σ)) (fun k28_1 : Int32 → Prop => (vv_jn ((k28_1 (0 : Int32))) (fun k27_2 : Prop => (((a1 < 0 → (k27_2)) ∧ (¬ a1 < 0 → ((((σ d 2) ≤ a1 → (k27_2)) ∧ (¬ (σ d 2) ≤ a1 → ((((8 : Int32) ≤ a1 → (k27_2)) ∧ (¬ (8 : Int32) ≤ a1 → (vp_in a1 8 ∧ (k28_1 (σ (d + 1) a1.toNatClampNeg)))))))))))))))
def wX4_firstStuff (d : Nat) (a1 : Int32) (σ : vv_S) (post : Int32 → vv_S → Prop) : Prop := vv_jn (fun (v1 : Int32) => (post v1 σ)) (fun k28_1 : Int32 → Prop => (vv_jn ((k28_1 (0 : Int32))) (fun k27_2 : Prop => (((a1 < 0 → (k27_2)) ∧ (¬ a1 < 0 → ((((σ d 2) ≤ a1 → (k27_2)) ∧ (¬ (σ d 2) ≤ a1 → ((((8 : Int32) ≤ a1 → (k27_2)) ∧ (¬ (8 : Int32) ≤ a1 → (vp_in a1 8 ∧ (k28_1 (σ (d + 2) a1.toNatClampNeg)))))))))))))))
def lX3_startAnew_1 (k49_1 : vv_S → Prop) (d : Nat) : Nat → Int32 → vv_S → Prop
  | 0, _, _ => False
  | n10 + 1, v8, σ9 => (((8 : Int32) ≤ v8 → (k49_1 σ9)) ∧ (¬ (8 : Int32) ≤ v8 → ((wX4_firstHeight 4 v8 σ9 (fun (r13 : Int32) (σ12 : vv_S) => ((vp_in v8 8 ∧ (∀ σ15 : vv_S, σ15 = vv_up σ12 (d + 1) v8.toNatClampNeg r13 → ((wX4_firstStuff 4 v8 σ15 (fun (r17 : Int32) (σ16 : vv_S) => ((vp_in v8 8 ∧ (∀ σ19 : vv_S, σ19 = vv_up σ16 (d + 2) v8.toNatClampNeg r17 → (vp_in v8 8 ∧ (∀ σ21 : vv_S, σ21 = vv_up σ19 (d + 3) v8.toNatClampNeg (0 : Int32) → (∀ v22 : Int32, v22 = v8 + (1 : Int32) → (lX3_startAnew_1 k49_1 d n10 v22 σ21))))))))))))))))))
def wX3_startAnew (d : Nat) (σ : vv_S) (post : vv_S → Prop) : Prop := vv_jn (fun (σ1 : vv_S) => (∀ σ3 : vv_S, σ3 = vv_up σ1 d 4 (0 : Int32) → (∀ σ4 : vv_S, σ4 = vv_up σ3 d 5 (0 : Int32) → (∀ σ5 : vv_S, σ5 = vv_up σ4 d 6 (0 : Int32) → (∀ σ6 : vv_S, σ6 = vv_up σ5 d 7 (0 : Int32) → ((wX3_survey d σ6 (fun σ7 : vv_S => ((post σ7)))))))))) (fun k49_1 : vv_S → Prop => ((∃ n10 : Nat, lX3_startAnew_1 k49_1 d n10 (0 : Int32) σ)))
def wX3_canPass (d : Nat) (a1 : Int32) (σ : vv_S) (post : Int32 → vv_S → Prop) : Prop := vv_jn (fun (v1 : Int32) => ((v1 = 0 ∨ v1 = 1) ∧ post v1 σ)) (fun k17_1 : Int32 → Prop => ((((999 : Int32) < ((σ d 5) + a1) → (k17_1 (0 : Int32))) ∧ (¬ (999 : Int32) < ((σ d 5) + a1) → (k17_1 (1 : Int32))))))
def wX4_brook (d : Nat) (σ : vv_S) (post : vv_S → Prop) : Prop := post σ
def wX1_comesIn (d : Nat) (a1 : Int32) (σ : vv_S) (post : Int32 → vv_S → Prop) : Prop := vv_jn (fun (v1 : Int32) => (post v1 σ)) (fun k19_1 : Int32 → Prop => (((0 ≤ a1 → (vp_in (if (100 : Int32) < a1 then (100 : Int32) else a1) 101 ∧ (k19_1 (σ (d + 6) ((if (100 : Int32) < a1 then (100 : Int32) else a1)).toNatClampNeg)))) ∧ (¬ 0 ≤ a1 → (k19_1 (0 : Int32))))))
def wX3_wears (d : Nat) (a1 : Int32) (σ : vv_S) (post : Int32 → vv_S → Prop) : Prop := vv_jn ((post (0 : Int32) σ)) (fun k19_0 : Prop => (((a1 < 0 → (k19_0)) ∧ (¬ a1 < 0 → ((((8 : Int32) ≤ a1 → (k19_0)) ∧ (¬ (8 : Int32) ≤ a1 → (vp_in a1 8 ∧ (((¬ (σ (d + 1) a1.toNatClampNeg) = 0 → (vp_in a1 8 ∧ (vv_jn (fun (v7 : Int32) => (vp_in a1 8 ∧ (vp_in a1 8 ∧ (∀ σ11 : vv_S, σ11 = vv_up σ (d + 1) a1.toNatClampNeg (if (0 : Int32) < ((σ (d + 1) a1.toNatClampNeg) - v7) then ((σ (d + 1) a1.toNatClampNeg) - v7) else (0 : Int32)) → (vp_in a1 8 ∧ (vv_jn (fun (σ13 : vv_S) => (vv_jn (fun (v15 : Int32) => ((v15 = 0 ∨ v15 = 1) ∧ post v15 σ13)) (fun k110_15 : Int32 → Prop => (((v7 ≤ 0 → (k110_15 (0 : Int32))) ∧ (¬ v7 ≤ 0 → (k110_15 (1 : Int32)))))))) (fun k101_13 : vv_S → Prop => (((¬ (σ11 (d + 1) a1.toNatClampNeg) = 0 → (k101_13 σ11)) ∧ ((σ11 (d + 1) a1.toNatClampNeg) = 0 → (vp_in a1 8 ∧ (vp_in a1 8 ∧ (∀ σ21 : vv_S, σ21 = vv_up σ11 (d + 3) a1.toNatClampNeg ((σ11 (d + 3) a1.toNatClampNeg) + (1 : Int32)) → (∀ σ22 : vv_S, σ22 = vv_up σ21 d 15 a1 → (k101_13 σ22))))))))))))))) (fun k58_7 : Int32 → Prop => (((¬ (σ (d + 2) a1.toNatClampNeg) = 0 → (vp_in a1 8 ∧ (vv_jn ((k58_7 (0 : Int32))) (fun k57_24 : Prop => (((¬ (σ (d + 2) a1.toNatClampNeg) = (1 : Int32) → (k57_24)) ∧ ((σ (d + 2) a1.toNatClampNeg) = (1 : Int32) → (((¬ ((σ d 5) - (σ d 5) / (2 : Int32) * (2 : Int32)) = 0 → (k57_24)) ∧ (((σ d 5) - (σ d 5) / (2 : Int32) * (2 : Int32)) = 0 → (k58_7 (1 : Int32)))))))))))) ∧ ((σ (d + 2) a1.toNatClampNeg) = 0 → (k58_7 (2 : Int32))))))))) ∧ ((σ (d + 1) a1.toNatClampNeg) = 0 → (k19_0))))))))))))
def lX4_levelOf_1 (post : Int32 → vv_S → Prop) (d : Nat) (a1 : Int32) : Nat → Int32 → Int32 → vv_S → Prop
  | 0, _, _, _ => False
  | n4 + 1, v1, v2, σ3 => ((v2 ≤ 0 → (post v1 σ3)) ∧ (¬ v2 ≤ 0 → (∀ v6 : Int32, v6 = (v1 + v2) → (vv_jn (fun (v7 : Int32) (σ8 : vv_S) => (∀ v10 : Int32, v10 = (v2 / (2 : Int32)) → (lX4_levelOf_1 post d a1 n4 v7 v10 σ8))) (fun k34_8 : Int32 → vv_S → Prop => ((((60 : Int32) < v6 → (k34_8 v1 σ3)) ∧ (¬ (60 : Int32) < v6 → ((wX4_takes d v6 σ3 (fun (r13 : Int32) (σ12 : vv_S) => ((((a1 < r13 → (k34_8 v1 σ12)) ∧ (¬ a1 < r13 → (k34_8 v6 σ12))))))))))))))))
def wX4_levelOf (d : Nat) (a1 : Int32) (σ : vv_S) (post : Int32 → vv_S → Prop) : Prop := (∃ n4 : Nat, lX4_levelOf_1 post d a1 n4 (0 : Int32) (32 : Int32) σ)
def wX3_oneMinute (d : Nat) (a1 : Int32) (σ : vv_S) (post : vv_S → Prop) : Prop := ∀ σ1 : vv_S, σ1 = vv_up σ d 5 ((σ d 5) + (1 : Int32)) → ((wX4_brook 4 σ1 (fun σ2 : vv_S => (((wX1_comesIn 7 (σ2 d 5) σ2 (fun (r4 : Int32) (σ3 : vv_S) => ((∀ σ5 : vv_S, σ5 = vv_up σ3 d 4 ((σ1 d 4) + (r4 + a1)) → (vv_jn (fun (σ6 : vv_S) => (∀ σ8 : vv_S, σ8 = vv_up σ6 d 13 (if (0 : Int32) < ((σ6 d 4) - (σ6 d 10)) then ((σ6 d 4) - (σ6 d 10)) else (0 : Int32)) → (∀ σ9 : vv_S, σ9 = vv_up σ8 d 14 (σ8 d 9) → (∀ σ10 : vv_S, σ10 = vv_up σ9 d 4 ((σ9 d 4) - (σ9 d 13)) → (∀ σ11 : vv_S, σ11 = vv_up σ10 d 6 ((σ10 d 6) + (σ10 d 13)) → (∀ σ12 : vv_S, σ12 = vv_up σ11 d 15 (-4 : Int32) → (vv_jn (fun (σ13 : vv_S) => (post σ13)) (fun k184_13 : vv_S → Prop => ((((σ12 d 13) ≤ 0 → (k184_13 σ12)) ∧ (¬ (σ12 d 13) ≤ 0 → ((wX3_wears d (σ12 d 14) σ12 (fun (r17 : Int32) (σ16 : vv_S) => ((((r17 = 0 → (k184_13 σ16)) ∧ (¬ r17 = 0 → ((wX3_survey d σ16 (fun σ19 : vv_S => ((k184_13 σ19))))))))))))))))))))))) (fun k105_6 : vv_S → Prop => (((((σ5 d 11) + (σ5 d 12)) ≤ 0 → (k105_6 σ5)) ∧ (¬ ((σ5 d 11) + (σ5 d 12)) ≤ 0 → ((wX4_levelOf 4 (σ5 d 4) σ5 (fun (r22 : Int32) (σ21 : vv_S) => ((∀ v23 : Int32, v23 = (if (((σ21 d 11) * (r22 / (8 : Int32))) + ((σ21 d 12) * (r22 / (3 : Int32)))) < (σ21 d 4) then (((σ21 d 11) * (r22 / (8 : Int32))) + ((σ21 d 12) * (r22 / (3 : Int32)))) else (σ21 d 4)) → (∀ σ24 : vv_S, σ24 = vv_up σ21 d 4 ((σ21 d 4) - v23) → (∀ σ25 : vv_S, σ25 = vv_up σ24 d 7 ((σ24 d 7) + v23) → (k105_6 σ25))))))))))))))))))))))
def lX3_letPass_1 (a1 : Int32) (post : vv_S → Prop) (d : Nat) (a2 : Int32) : Nat → Int32 → vv_S → Prop
  | 0, _, _ => False
  | n3 + 1, v1, σ2 => ((a1 ≤ v1 → (post σ2)) ∧ (¬ a1 ≤ v1 → ((wX3_oneMinute d a2 σ2 (fun σ5 : vv_S => ((∀ v6 : Int32, v6 = v1 + (1 : Int32) → (lX3_letPass_1 a1 post d a2 n3 v6 σ5))))))))
def wX3_letPass (d : Nat) (a1 : Int32) (a2 : Int32) (σ : vv_S) (post : vv_S → Prop) : Prop := (∃ n3 : Nat, lX3_letPass_1 a1 post d a2 n3 (0 : Int32) σ)
def wX3_heightAt (d : Nat) (a1 : Int32) (σ : vv_S) (post : Int32 → vv_S → Prop) : Prop := vv_jn (fun (v1 : Int32) => (post v1 σ)) (fun k20_1 : Int32 → Prop => (vv_jn ((k20_1 (0 : Int32))) (fun k19_2 : Prop => (((a1 < 0 → (k19_2)) ∧ (¬ a1 < 0 → ((((8 : Int32) ≤ a1 → (k19_2)) ∧ (¬ (8 : Int32) ≤ a1 → (vp_in a1 8 ∧ (k20_1 (σ (d + 1) a1.toNatClampNeg))))))))))))
def wX3_canDig (d : Nat) (a1 : Int32) (a2 : Int32) (σ : vv_S) (post : Int32 → vv_S → Prop) : Prop := (wX3_heightAt d a1 σ (fun (r2 : Int32) (σ1 : vv_S) => ((vv_jn (fun (v3 : Int32) => ((v3 = 0 ∨ v3 = 1) ∧ post v3 σ1)) (fun k14_3 : Int32 → Prop => (((r2 < a2 → (k14_3 (0 : Int32))) ∧ (¬ r2 < a2 → (k14_3 (1 : Int32))))))))))
def wX3_stuffAt (d : Nat) (a1 : Int32) (σ : vv_S) (post : Int32 → vv_S → Prop) : Prop := vv_jn (fun (v1 : Int32) => (post v1 σ)) (fun k20_1 : Int32 → Prop => (vv_jn ((k20_1 (0 : Int32))) (fun k19_2 : Prop => (((a1 < 0 → (k19_2)) ∧ (¬ a1 < 0 → ((((8 : Int32) ≤ a1 → (k19_2)) ∧ (¬ (8 : Int32) ≤ a1 → (vp_in a1 8 ∧ (k20_1 (σ (d + 2) a1.toNatClampNeg))))))))))))
def wX3_remake (d : Nat) (a1 : Int32) (a2 : Int32) (a3 : Int32) (σ : vv_S) (post : vv_S → Prop) : Prop := vv_jn ((post σ)) (fun k10_0 : Prop => (((a1 < 0 → (k10_0)) ∧ (¬ a1 < 0 → (((a1 < (8 : Int32) → (vp_in a1 8 ∧ (∀ σ5 : vv_S, σ5 = vv_up σ (d + 1) a1.toNatClampNeg a3 → (vp_in a1 8 ∧ (∀ σ7 : vv_S, σ7 = vv_up σ5 (d + 2) a1.toNatClampNeg a2 → ((wX3_survey d σ7 (fun σ8 : vv_S => ((post σ8)))))))))) ∧ (¬ a1 < (8 : Int32) → (k10_0))))))))
def wX3_digAt (d : Nat) (a1 : Int32) (a2 : Int32) (σ : vv_S) (post : vv_S → Prop) : Prop := (wX3_stuffAt d a1 σ (fun (r2 : Int32) (σ1 : vv_S) => (((wX3_heightAt d a1 σ1 (fun (r4 : Int32) (σ3 : vv_S) => (((wX3_remake d a1 r2 (r4 - a2) σ3 (fun σ5 : vv_S => ((post σ5))))))))))))
def wX3_canRaise (d : Nat) (a1 : Int32) (a2 : Int32) (σ : vv_S) (post : Int32 → vv_S → Prop) : Prop := (wX3_heightAt d a1 σ (fun (r2 : Int32) (σ1 : vv_S) => ((vv_jn (fun (v3 : Int32) => ((v3 = 0 ∨ v3 = 1) ∧ post v3 σ1)) (fun k17_3 : Int32 → Prop => ((((40 : Int32) < (r2 + a2) → (k17_3 (0 : Int32))) ∧ (¬ (40 : Int32) < (r2 + a2) → (k17_3 (1 : Int32))))))))))
def wX3_layAt (d : Nat) (a1 : Int32) (a2 : Int32) (a3 : Int32) (σ : vv_S) (post : vv_S → Prop) : Prop := (wX3_heightAt d a1 σ (fun (r2 : Int32) (σ1 : vv_S) => (((wX3_remake d a1 a2 (r2 + a3) σ1 (fun σ3 : vv_S => ((post σ3))))))))
def wX0_doOne (a1 : Int32) (a2 : Int32) (a3 : Int32) (a4 : Int32) (o5 : Nat) (σ : vv_S) (post : vv_S → Prop) : Prop := vv_jn (fun (σ1 : vv_S) => (post σ1)) (fun k71_1 : vv_S → Prop => (vv_jn (fun (σ3 : vv_S) => (vv_jn (fun (σ5 : vv_S) => (((¬ a1 = (2 : Int32) → (k71_1 σ5)) ∧ (a1 = (2 : Int32) → ((wX3_canPass o5 a4 σ5 (fun (r9 : Int32) (σ8 : vv_S) => ((((r9 = 0 → (k71_1 σ8)) ∧ (¬ r9 = 0 → ((wX3_letPass o5 a4 (0 : Int32) σ8 (fun σ11 : vv_S => ((k71_1 σ11)))))))))))))))) (fun k50_5 : vv_S → Prop => (((¬ a1 = (1 : Int32) → (k50_5 σ3)) ∧ (a1 = (1 : Int32) → ((wX3_canDig o5 a2 a4 σ3 (fun (r14 : Int32) (σ13 : vv_S) => ((((r14 = 0 → (k50_5 σ13)) ∧ (¬ r14 = 0 → ((wX3_digAt o5 a2 a4 σ13 (fun σ16 : vv_S => ((k71_1 σ16)))))))))))))))))) (fun k25_3 : vv_S → Prop => (((¬ a1 = 0 → (k25_3 σ)) ∧ (a1 = 0 → ((wX3_canRaise o5 a2 a4 σ (fun (r19 : Int32) (σ18 : vv_S) => ((((r19 = 0 → (k25_3 σ18)) ∧ (¬ r19 = 0 → ((wX3_layAt o5 a2 a3 a4 σ18 (fun σ21 : vv_S => ((k71_1 σ21))))))))))))))))))
def lX0_doAllBut_1 (d : Nat) (k59_2 : vv_S → Prop) (a1 : Int32) (o2 : Nat) : Nat → Int32 → vv_S → Prop
  | 0, _, _ => False
  | n6 + 1, v4, σ5 => (((σ5 d 4) ≤ v4 → (k59_2 σ5)) ∧ (¬ (σ5 d 4) ≤ v4 → ((((30 : Int32) ≤ v4 → (k59_2 σ5)) ∧ (¬ (30 : Int32) ≤ v4 → (vv_jn (fun (σ9 : vv_S) => (∀ v11 : Int32, v11 = v4 + (1 : Int32) → (lX0_doAllBut_1 d k59_2 a1 o2 n6 v11 σ9))) (fun k53_9 : vv_S → Prop => (((v4 = a1 → (k53_9 σ5)) ∧ (¬ v4 = a1 → (vp_in v4 30 ∧ (vp_in v4 30 ∧ (vp_in v4 30 ∧ (vp_in v4 30 ∧ ((wX0_doOne (σ5 (d + 1) v4.toNatClampNeg) (σ5 (d + 2) v4.toNatClampNeg) (σ5 (d + 3) v4.toNatClampNeg) (σ5 (d + 4) v4.toNatClampNeg) o2 σ5 (fun σ17 : vv_S => ((k53_9 σ17)))))))))))))))))))
def wX0_doAllBut (d : Nat) (a1 : Int32) (o2 : Nat) (σ : vv_S) (post : vv_S → Prop) : Prop := (wX3_startAnew o2 σ (fun σ1 : vv_S => ((vv_jn (fun (σ2 : vv_S) => (post σ2)) (fun k59_2 : vv_S → Prop => ((∃ n6 : Nat, lX0_doAllBut_1 d k59_2 a1 o2 n6 (0 : Int32) σ1)))))))
def wX1_clear (d : Nat) (σ : vv_S) (post : vv_S → Prop) : Prop := ∀ σ1 : vv_S, σ1 = vv_up σ d 2 (0 : Int32) → (∀ σ2 : vv_S, σ2 = vv_up σ1 d 6 (0 : Int32) → (post σ2))
def wX1_addFlow (d : Nat) (a1 : Int32) (a2 : Int32) (σ : vv_S) (post : Int32 → vv_S → Prop) : Prop := vv_jn ((post (0 : Int32) σ)) (fun k21_0 : Prop => ((((σ d 2) < 0 → (k21_0)) ∧ (¬ (σ d 2) < 0 → ((((4 : Int32) ≤ (σ d 2) → (k21_0)) ∧ (¬ (4 : Int32) ≤ (σ d 2) → (((a2 ≤ (60 : Int32) → (vp_in (σ d 2) 4 ∧ (∀ σ6 : vv_S, σ6 = vv_up σ (d + 1) ((σ d 2)).toNatClampNeg a1 → (vp_in (σ6 d 2) 4 ∧ (∀ σ8 : vv_S, σ8 = vv_up σ6 (d + 2) ((σ6 d 2)).toNatClampNeg a2 → (∀ σ9 : vv_S, σ9 = vv_up σ8 d 2 ((σ8 d 2) + (1 : Int32)) → (post (1 : Int32) σ9))))))) ∧ (¬ a2 ≤ (60 : Int32) → (k21_0)))))))))))
def wX1_addRain (d : Nat) (a1 : Int32) (a2 : Int32) (a3 : Int32) (σ : vv_S) (post : Int32 → vv_S → Prop) : Prop := vv_jn ((post (0 : Int32) σ)) (fun k26_0 : Prop => ((((σ d 6) < 0 → (k26_0)) ∧ (¬ (σ d 6) < 0 → ((((4 : Int32) ≤ (σ d 6) → (k26_0)) ∧ (¬ (4 : Int32) ≤ (σ d 6) → (((a2 < a1 → (k26_0)) ∧ (¬ a2 < a1 → (((a3 ≤ (30 : Int32) → (vp_in (σ d 6) 4 ∧ (∀ σ7 : vv_S, σ7 = vv_up σ (d + 3) ((σ d 6)).toNatClampNeg a1 → (vp_in (σ7 d 6) 4 ∧ (∀ σ9 : vv_S, σ9 = vv_up σ7 (d + 4) ((σ7 d 6)).toNatClampNeg a2 → (vp_in (σ9 d 6) 4 ∧ (∀ σ11 : vv_S, σ11 = vv_up σ9 (d + 5) ((σ9 d 6)).toNatClampNeg a3 → (∀ σ12 : vv_S, σ12 = vv_up σ11 d 6 ((σ11 d 6) + (1 : Int32)) → (post (1 : Int32) σ12))))))))) ∧ (¬ a3 ≤ (30 : Int32) → (k26_0))))))))))))))
def lX1_flowIn_1 (σ : vv_S) (d : Nat) (k67_1 : Int32 → Prop) (a1 : Int32) : Nat → Int32 → Int32 → Int32 → Prop
  | 0, _, _, _ => False
  | n6 + 1, v3, v4, v5 => (((σ d 2) ≤ v5 → (k67_1 v4)) ∧ (¬ (σ d 2) ≤ v5 → ((((4 : Int32) ≤ v5 → (k67_1 v4)) ∧ (¬ (4 : Int32) ≤ v5 → (vp_in v5 4 ∧ (vv_jn (fun (v10 : Int32) (v11 : Int32) => (∀ v13 : Int32, v13 = v5 + (1 : Int32) → (lX1_flowIn_1 σ d k67_1 a1 n6 v10 v11 v13))) (fun k61_11 : Int32 → Int32 → Prop => (((a1 < (σ (d + 1) v5.toNatClampNeg) → (k61_11 v3 v4)) ∧ (¬ a1 < (σ (d + 1) v5.toNatClampNeg) → (vp_in v5 4 ∧ ((((σ (d + 1) v5.toNatClampNeg) < v3 → (k61_11 v3 v4)) ∧ (¬ (σ (d + 1) v5.toNatClampNeg) < v3 → (vp_in v5 4 ∧ (∀ v18 : Int32, v18 = (σ (d + 1) v5.toNatClampNeg) → (vp_in v5 4 ∧ (∀ v20 : Int32, v20 = (σ (d + 2) v5.toNatClampNeg) → (k61_11 v18 v20))))))))))))))))))))
def wX1_flowIn (d : Nat) (a1 : Int32) (σ : vv_S) (post : Int32 → vv_S → Prop) : Prop := vv_jn (fun (v1 : Int32) => (post v1 σ)) (fun k67_1 : Int32 → Prop => ((∃ n6 : Nat, lX1_flowIn_1 σ d k67_1 a1 n6 (-4 : Int32) (0 : Int32) (0 : Int32))))
def lX1_rainIn_1 (σ : vv_S) (d : Nat) (k52_1 : Int32 → Prop) (a1 : Int32) : Nat → Int32 → Int32 → Prop
  | 0, _, _ => False
  | n5 + 1, v3, v4 => (((σ d 6) ≤ v4 → (k52_1 v3)) ∧ (¬ (σ d 6) ≤ v4 → ((((4 : Int32) ≤ v4 → (k52_1 v3)) ∧ (¬ (4 : Int32) ≤ v4 → (vp_in v4 4 ∧ (vv_jn (fun (v9 : Int32) => (∀ v11 : Int32, v11 = v4 + (1 : Int32) → (lX1_rainIn_1 σ d k52_1 a1 n5 v9 v11))) (fun k46_9 : Int32 → Prop => (((a1 < (σ (d + 3) v4.toNatClampNeg) → (k46_9 v3)) ∧ (¬ a1 < (σ (d + 3) v4.toNatClampNeg) → (vp_in v4 4 ∧ ((((σ (d + 4) v4.toNatClampNeg) < a1 → (k46_9 v3)) ∧ (¬ (σ (d + 4) v4.toNatClampNeg) < a1 → (vp_in v4 4 ∧ (∀ v16 : Int32, v16 = (v3 + (σ (d + 5) v4.toNatClampNeg)) → (k46_9 v16))))))))))))))))))
def wX1_rainIn (d : Nat) (a1 : Int32) (σ : vv_S) (post : Int32 → vv_S → Prop) : Prop := vv_jn (fun (v1 : Int32) => (post v1 σ)) (fun k52_1 : Int32 → Prop => ((∃ n5 : Nat, lX1_rainIn_1 σ d k52_1 a1 n5 (0 : Int32) (0 : Int32))))
def lX1_settle_1 (post : vv_S → Prop) (d : Nat) : Nat → Int32 → vv_S → Prop
  | 0, _, _ => False
  | n3 + 1, v1, σ2 => (((100 : Int32) < v1 → (post σ2)) ∧ (¬ (100 : Int32) < v1 → ((wX1_flowIn d v1 σ2 (fun (r6 : Int32) (σ5 : vv_S) => (((wX1_rainIn d v1 σ5 (fun (r8 : Int32) (σ7 : vv_S) => ((vp_in v1 101 ∧ (∀ σ10 : vv_S, σ10 = vv_up σ7 (d + 6) v1.toNatClampNeg (r6 + r8) → (∀ v11 : Int32, v11 = v1 + (1 : Int32) → (lX1_settle_1 post d n3 v11 σ10))))))))))))))
def wX1_settle (d : Nat) (σ : vv_S) (post : vv_S → Prop) : Prop := (∃ n3 : Nat, lX1_settle_1 post d n3 (0 : Int32) σ)
def wX2_clear (d : Nat) (σ : vv_S) (post : vv_S → Prop) : Prop := ∀ σ1 : vv_S, σ1 = vv_up σ d 1 (0 : Int32) → (∀ σ2 : vv_S, σ2 = vv_up σ1 d 4 (0 : Int32) → (post σ2))
def wX7_numberAt (a1 : Int32) (σ : vv_S) (post : Int32 → vv_S → Prop) : Prop := vv_jn (fun (v1 : Int32) => (post v1 σ)) (fun k27_1 : Int32 → Prop => (vv_jn ((k27_1 (0 : Int32))) (fun k26_2 : Prop => (((a1 < 0 → (k26_2)) ∧ (¬ a1 < 0 → ((((σ 1 3) ≤ a1 → (k26_2)) ∧ (¬ (σ 1 3) ≤ a1 → ((((4 : Int32) ≤ a1 → (k26_2)) ∧ (¬ (4 : Int32) ≤ a1 → (vp_in a1 4 ∧ (k27_1 (σ 3 a1.toNatClampNeg)))))))))))))))
def lX2_addChild_1 (k58_4 : vv_S → Prop) (d : Nat) (post : Int32 → vv_S → Prop) : Nat → Int32 → vv_S → Prop
  | 0, _, _ => False
  | n9 + 1, v7, σ8 => (((4 : Int32) ≤ v7 → (k58_4 σ8)) ∧ (¬ (4 : Int32) ≤ v7 → ((wX7_numberAt v7 σ8 (fun (r12 : Int32) (σ11 : vv_S) => ((((r12 ≤ (9 : Int32) → (vp_in (σ11 d 1) 4 ∧ ((wX7_numberAt v7 σ11 (fun (r16 : Int32) (σ15 : vv_S) => ((vp_in v7 4 ∧ (∀ σ18 : vv_S, σ18 = vv_up σ15 (d + 2 + 1 * ((σ11 d 1)).toNatClampNeg) v7.toNatClampNeg r16 → (∀ v19 : Int32, v19 = v7 + (1 : Int32) → (lX2_addChild_1 k58_4 d post n9 v19 σ18)))))))))) ∧ (¬ r12 ≤ (9 : Int32) → (post (0 : Int32) σ11))))))))))
def wX2_addChild (d : Nat) (σ : vv_S) (post : Int32 → vv_S → Prop) : Prop := vv_jn ((post (0 : Int32) σ)) (fun k15_0 : Prop => ((((σ d 1) < 0 → (k15_0)) ∧ (¬ (σ d 1) < 0 → ((((σ d 1) < (4 : Int32) → (vv_jn (fun (σ4 : vv_S) => (∀ σ6 : vv_S, σ6 = vv_up σ4 d 1 ((σ4 d 1) + (1 : Int32)) → (post (1 : Int32) σ6))) (fun k58_4 : vv_S → Prop => ((∃ n9 : Nat, lX2_addChild_1 k58_4 d post n9 (0 : Int32) σ))))) ∧ (¬ (σ d 1) < (4 : Int32) → (k15_0))))))))
def wX8_isWithin (a1 : Int32) (a2 : Int32) (a3 : Int32) (σ : vv_S) (post : Int32 → vv_S → Prop) : Prop := vv_jn (fun (v1 : Int32) => ((v1 = 0 ∨ v1 = 1) ∧ post v1 σ)) (fun k15_1 : Int32 → Prop => (vv_jn ((k15_1 (0 : Int32))) (fun k14_2 : Prop => (((a1 < a2 → (k14_2)) ∧ (¬ a1 < a2 → (((a3 < a1 → (k14_2)) ∧ (¬ a3 < a1 → (k15_1 (1 : Int32)))))))))))
def wX8_isStuff (a1 : Int32) (σ : vv_S) (post : Int32 → vv_S → Prop) : Prop := (wX8_isWithin a1 (0 : Int32) (3 : Int32) σ (fun (r2 : Int32) (σ1 : vv_S) => (((r2 = 0 ∨ r2 = 1) ∧ post r2 σ1))))
def wX2_addJob (d : Nat) (a1 : Int32) (a2 : Int32) (σ : vv_S) (post : Int32 → vv_S → Prop) : Prop := vv_jn (fun (σ1 : vv_S) => (post (0 : Int32) σ1)) (fun k32_1 : vv_S → Prop => ((((σ d 4) < 0 → (k32_1 σ)) ∧ (¬ (σ d 4) < 0 → ((((5 : Int32) ≤ (σ d 4) → (k32_1 σ)) ∧ (¬ (5 : Int32) ≤ (σ d 4) → ((wX8_isStuff a1 σ (fun (r6 : Int32) (σ5 : vv_S) => ((((r6 = 0 → (k32_1 σ5)) ∧ (¬ r6 = 0 → ((wX8_isWithin a2 (1 : Int32) (30 : Int32) σ5 (fun (r9 : Int32) (σ8 : vv_S) => ((((¬ r9 = 0 → (vp_in (σ8 d 4) 5 ∧ (∀ σ12 : vv_S, σ12 = vv_up σ8 (d + 6) ((σ8 d 4)).toNatClampNeg a1 → (vp_in (σ12 d 4) 5 ∧ (∀ σ14 : vv_S, σ14 = vv_up σ12 (d + 7) ((σ12 d 4)).toNatClampNeg a2 → (∀ σ15 : vv_S, σ15 = vv_up σ14 d 4 ((σ14 d 4) + (1 : Int32)) → (post (1 : Int32) σ15))))))) ∧ (r9 = 0 → (k32_1 σ8))))))))))))))))))))))
def wX2_childCount (d : Nat) (σ : vv_S) (post : Int32 → vv_S → Prop) : Prop := post (σ d 1) σ
def wX2_jobCount (d : Nat) (σ : vv_S) (post : Int32 → vv_S → Prop) : Prop := post (σ d 4) σ
def lX2_wayCount_1 (σ : vv_S) (d : Nat) (post : Int32 → vv_S → Prop) : Nat → Int32 → Int32 → Prop
  | 0, _, _ => False
  | n3 + 1, v1, v2 => (((σ d 4) ≤ v2 → (post v1 σ)) ∧ (¬ (σ d 4) ≤ v2 → (∀ v5 : Int32, v5 = (v1 * (σ d 1)) → (∀ v6 : Int32, v6 = v2 + (1 : Int32) → (lX2_wayCount_1 σ d post n3 v5 v6)))))
def wX2_wayCount (d : Nat) (σ : vv_S) (post : Int32 → vv_S → Prop) : Prop := (∃ n3 : Nat, lX2_wayCount_1 σ d post n3 (1 : Int32) (0 : Int32))
def lX2_whoDoes_1 (a1 : Int32) (k40_3 : Int32 → Prop) (σ : vv_S) (d : Nat) : Nat → Int32 → Int32 → Prop
  | 0, _, _ => False
  | n7 + 1, v5, v6 => ((v6 ≤ a1 → (k40_3 v5)) ∧ (¬ v6 ≤ a1 → (¬ (σ d 1) = 0 ∧ (∀ v9 : Int32, v9 = (v5 / (σ d 1)) → (∀ v10 : Int32, v10 = v6 + (-1 : Int32) → (lX2_whoDoes_1 a1 k40_3 σ d n7 v9 v10))))))
def wX2_whoDoes (d : Nat) (a1 : Int32) (a2 : Int32) (σ : vv_S) (post : Int32 → vv_S → Prop) : Prop := (((1 : Int32) ≤ (σ d 1) → (∀ v2 : Int32, v2 = ((σ d 4) - (1 : Int32)) → (vv_jn (fun (v3 : Int32) => (¬ (σ d 1) = 0 ∧ (post (v3 - v3 / (σ d 1) * (σ d 1)) σ))) (fun k40_3 : Int32 → Prop => ((∃ n7 : Nat, lX2_whoDoes_1 a1 k40_3 σ d n7 a2 v2)))))) ∧ (¬ (1 : Int32) ≤ (σ d 1) → (post (-4 : Int32) σ)))
def wX2_minutesFor (d : Nat) (a1 : Int32) (a2 : Int32) (σ : vv_S) (post : Int32 → vv_S → Prop) : Prop := vv_jn ((post (-4 : Int32) σ)) (fun k24_0 : Prop => (((a1 < 0 → (k24_0)) ∧ (¬ a1 < 0 → ((((σ d 1) ≤ a1 → (k24_0)) ∧ (¬ (σ d 1) ≤ a1 → (((a2 < 0 → (k24_0)) ∧ (¬ a2 < 0 → (((a2 < (σ d 4) → (vp_in a1 4 ∧ (vp_in a2 5 ∧ (vp_in (σ (d + 6) a2.toNatClampNeg) 4 ∧ (∀ v9 : Int32, v9 = (σ (d + 2 + 1 * a1.toNatClampNeg) ((σ (d + 6) a2.toNatClampNeg)).toNatClampNeg) → (vv_jn (fun (v10 : Int32) => (post v10 σ)) (fun k63_10 : Int32 → Prop => ((((1 : Int32) ≤ v9 → (vp_in a2 5 ∧ (¬ v9 = 0 ∧ (k63_10 ((((σ (d + 7) a2.toNatClampNeg) + v9) - (1 : Int32)) / v9))))) ∧ (¬ (1 : Int32) ≤ v9 → (k63_10 (-4 : Int32)))))))))))) ∧ (¬ a2 < (σ d 4) → (k24_0))))))))))))))
def lX2_minutesBy_1 (d : Nat) (post : Int32 → vv_S → Prop) (a1 : Int32) (k67_3 : vv_S → Prop) : Nat → Int32 → Int32 → vv_S → Prop
  | 0, _, _, _ => False
  | n8 + 1, v5, v6, σ7 => (((σ7 d 4) ≤ v6 → (post v5 σ7)) ∧ (¬ (σ7 d 4) ≤ v6 → ((wX2_whoDoes d v6 a1 σ7 (fun (r11 : Int32) (σ10 : vv_S) => (((wX2_minutesFor d r11 v6 σ10 (fun (r13 : Int32) (σ12 : vv_S) => ((((r13 = (-4 : Int32) → (k67_3 σ12)) ∧ (¬ r13 = (-4 : Int32) → (((r11 < 0 → (k67_3 σ12)) ∧ (¬ r11 < 0 → (((r11 < (4 : Int32) → (vp_in r11 4 ∧ (vp_in r11 4 ∧ (∀ σ19 : vv_S, σ19 = vv_up σ12 (d + 8) r11.toNatClampNeg ((σ12 (d + 8) r11.toNatClampNeg) + r13) → (vp_in r11 4 ∧ (∀ v21 : Int32, v21 = (if v5 < (σ19 (d + 8) r11.toNatClampNeg) then (σ19 (d + 8) r11.toNatClampNeg) else v5) → (∀ v22 : Int32, v22 = v6 + (1 : Int32) → (lX2_minutesBy_1 d post a1 k67_3 n8 v21 v22 σ19)))))))) ∧ (¬ r11 < (4 : Int32) → (k67_3 σ12))))))))))))))))))))
def lX2_minutesBy_2 (k22_1 : vv_S → Prop) (d : Nat) : Nat → Int32 → vv_S → Prop
  | 0, _, _ => False
  | n25 + 1, v23, σ24 => (((4 : Int32) ≤ v23 → (k22_1 σ24)) ∧ (¬ (4 : Int32) ≤ v23 → (vp_in v23 4 ∧ (∀ σ28 : vv_S, σ28 = vv_up σ24 (d + 8) v23.toNatClampNeg (0 : Int32) → (∀ v29 : Int32, v29 = v23 + (1 : Int32) → (lX2_minutesBy_2 k22_1 d n25 v29 σ28))))))
def wX2_minutesBy (d : Nat) (a1 : Int32) (σ : vv_S) (post : Int32 → vv_S → Prop) : Prop := vv_jn (fun (σ1 : vv_S) => (vv_jn (fun (σ3 : vv_S) => (post (-4 : Int32) σ3)) (fun k67_3 : vv_S → Prop => ((∃ n8 : Nat, lX2_minutesBy_1 d post a1 k67_3 n8 (0 : Int32) (0 : Int32) σ1))))) (fun k22_1 : vv_S → Prop => ((∃ n25 : Nat, lX2_minutesBy_2 k22_1 d n25 (0 : Int32) σ)))
def lX2_quickestWay_1 (r2 : Int32) (post : Int32 → vv_S → Prop) (d : Nat) : Nat → Int32 → Int32 → Int32 → vv_S → Prop
  | 0, _, _, _, _ => False
  | n7 + 1, v3, v4, v5, σ6 => ((r2 ≤ v5 → (post v3 σ6)) ∧ (¬ r2 ≤ v5 → ((wX2_minutesBy d v5 σ6 (fun (r10 : Int32) (σ9 : vv_S) => ((vv_jn (fun (v11 : Int32) (v12 : Int32) => (∀ v14 : Int32, v14 = v5 + (1 : Int32) → (lX2_quickestWay_1 r2 post d n7 v11 v12 v14 σ9))) (fun k52_12 : Int32 → Int32 → Prop => (((r10 = (-4 : Int32) → (k52_12 v3 v4)) ∧ (¬ r10 = (-4 : Int32) → (vv_jn ((k52_12 v5 r10)) (fun k46_15 : Prop => (((v3 = (-4 : Int32) → (k46_15)) ∧ (¬ v3 = (-4 : Int32) → (((v4 ≤ r10 → (k52_12 v3 v4)) ∧ (¬ v4 ≤ r10 → (k46_15))))))))))))))))))))
def wX2_quickestWay (d : Nat) (σ : vv_S) (post : Int32 → vv_S → Prop) : Prop := (wX2_wayCount d σ (fun (r2 : Int32) (σ1 : vv_S) => (((∃ n7 : Nat, lX2_quickestWay_1 r2 post d n7 (-4 : Int32) (0 : Int32) (0 : Int32) σ1)))))
def lX3_copyFrom_1 (k50_1 : vv_S → Prop) (d : Nat) (o1 : Nat) : Nat → Int32 → vv_S → Prop
  | 0, _, _ => False
  | n10 + 1, v8, σ9 => (((8 : Int32) ≤ v8 → (k50_1 σ9)) ∧ (¬ (8 : Int32) ≤ v8 → (vp_in v8 8 ∧ (vp_in v8 8 ∧ (∀ σ14 : vv_S, σ14 = vv_up σ9 (d + 1) v8.toNatClampNeg (σ9 (o1 + 1) v8.toNatClampNeg) → (vp_in v8 8 ∧ (vp_in v8 8 ∧ (∀ σ17 : vv_S, σ17 = vv_up σ14 (d + 2) v8.toNatClampNeg (σ14 (o1 + 2) v8.toNatClampNeg) → (vp_in v8 8 ∧ (vp_in v8 8 ∧ (∀ σ20 : vv_S, σ20 = vv_up σ17 (d + 3) v8.toNatClampNeg (σ17 (o1 + 3) v8.toNatClampNeg) → (∀ v21 : Int32, v21 = v8 + (1 : Int32) → (lX3_copyFrom_1 k50_1 d o1 n10 v21 σ20)))))))))))))
def wX3_copyFrom (d : Nat) (o1 : Nat) (σ : vv_S) (post : vv_S → Prop) : Prop := vv_jn (fun (σ1 : vv_S) => (∀ σ3 : vv_S, σ3 = vv_up σ1 d 4 (σ1 o1 4) → (∀ σ4 : vv_S, σ4 = vv_up σ3 d 5 (σ3 o1 5) → (∀ σ5 : vv_S, σ5 = vv_up σ4 d 6 (σ4 o1 6) → (∀ σ6 : vv_S, σ6 = vv_up σ5 d 7 (σ5 o1 7) → ((wX3_survey d σ6 (fun σ7 : vv_S => ((post σ7)))))))))) (fun k50_1 : vv_S → Prop => ((∃ n10 : Nat, lX3_copyFrom_1 k50_1 d o1 n10 (0 : Int32) σ)))
def lX3_passTillOver_1 (post : Int32 → vv_S → Prop) (d : Nat) : Nat → Int32 → vv_S → Prop
  | 0, _, _ => False
  | n3 + 1, v1, σ2 => (((200 : Int32) < v1 → (post (-4 : Int32) σ2)) ∧ (¬ (200 : Int32) < v1 → ((wX3_oneMinute d (0 : Int32) σ2 (fun σ5 : vv_S => (((((σ5 d 13) ≤ 0 → (∀ v7 : Int32, v7 = v1 + (1 : Int32) → (lX3_passTillOver_1 post d n3 v7 σ5))) ∧ (¬ (σ5 d 13) ≤ 0 → (post v1 σ5))))))))))
def wX3_passTillOver (d : Nat) (σ : vv_S) (post : Int32 → vv_S → Prop) : Prop := (∃ n3 : Nat, lX3_passTillOver_1 post d n3 (1 : Int32) σ)
def lX3_passTillBreach_1 (post : Int32 → vv_S → Prop) (d : Nat) : Nat → Int32 → vv_S → Prop
  | 0, _, _ => False
  | n3 + 1, v1, σ2 => (((200 : Int32) < v1 → (post (-4 : Int32) σ2)) ∧ (¬ (200 : Int32) < v1 → ((wX3_oneMinute d (0 : Int32) σ2 (fun σ5 : vv_S => (((((σ5 d 15) = (-4 : Int32) → (∀ v7 : Int32, v7 = v1 + (1 : Int32) → (lX3_passTillBreach_1 post d n3 v7 σ5))) ∧ (¬ (σ5 d 15) = (-4 : Int32) → (post v1 σ5))))))))))
def wX3_passTillBreach (d : Nat) (σ : vv_S) (post : Int32 → vv_S → Prop) : Prop := (∃ n3 : Nat, lX3_passTillBreach_1 post d n3 (1 : Int32) σ)
def wX3_empty (d : Nat) (σ : vv_S) (post : vv_S → Prop) : Prop := ∀ σ1 : vv_S, σ1 = vv_up σ d 4 (0 : Int32) → (post σ1)
def wX3_breachesAt (d : Nat) (a1 : Int32) (σ : vv_S) (post : Int32 → vv_S → Prop) : Prop := vv_jn (fun (v1 : Int32) => (post v1 σ)) (fun k20_1 : Int32 → Prop => (vv_jn ((k20_1 (0 : Int32))) (fun k19_2 : Prop => (((a1 < 0 → (k19_2)) ∧ (¬ a1 < 0 → ((((8 : Int32) ≤ a1 → (k19_2)) ∧ (¬ (8 : Int32) ≤ a1 → (vp_in a1 8 ∧ (k20_1 (σ (d + 3) a1.toNatClampNeg))))))))))))
def lX3_allBreaches_1 (post : Int32 → vv_S → Prop) (σ : vv_S) (d : Nat) : Nat → Int32 → Int32 → Prop
  | 0, _, _ => False
  | n3 + 1, v1, v2 => (((8 : Int32) ≤ v2 → (post v1 σ)) ∧ (¬ (8 : Int32) ≤ v2 → (vp_in v2 8 ∧ (∀ v6 : Int32, v6 = (v1 + (σ (d + 3) v2.toNatClampNeg)) → (∀ v7 : Int32, v7 = v2 + (1 : Int32) → (lX3_allBreaches_1 post σ d n3 v6 v7))))))
def wX3_allBreaches (d : Nat) (σ : vv_S) (post : Int32 → vv_S → Prop) : Prop := (∃ n3 : Nat, lX3_allBreaches_1 post σ d n3 (0 : Int32) (0 : Int32))
def wX3_wasBreached (d : Nat) (σ : vv_S) (post : Int32 → vv_S → Prop) : Prop := (wX3_allBreaches d σ (fun (r2 : Int32) (σ1 : vv_S) => ((vv_jn (fun (v3 : Int32) => ((v3 = 0 ∨ v3 = 1) ∧ post v3 σ1)) (fun k12_3 : Int32 → Prop => (((r2 ≤ 0 → (k12_3 (0 : Int32))) ∧ (¬ r2 ≤ 0 → (k12_3 (1 : Int32))))))))))
def wX3_level (d : Nat) (σ : vv_S) (post : Int32 → vv_S → Prop) : Prop := (wX4_levelOf 4 (σ d 4) σ (fun (r2 : Int32) (σ1 : vv_S) => ((post r2 σ1))))
def wX3_units (d : Nat) (σ : vv_S) (post : Int32 → vv_S → Prop) : Prop := post (σ d 4) σ
def wX3_minutesGone (d : Nat) (σ : vv_S) (post : Int32 → vv_S → Prop) : Prop := post (σ d 5) σ
def wX3_allOver (d : Nat) (σ : vv_S) (post : Int32 → vv_S → Prop) : Prop := post (σ d 6) σ
def wX3_allSeeped (d : Nat) (σ : vv_S) (post : Int32 → vv_S → Prop) : Prop := post (σ d 7) σ
def wX3_edgeHeight (d : Nat) (σ : vv_S) (post : Int32 → vv_S → Prop) : Prop := post (σ d 8) σ
def wX3_lowestPlace (d : Nat) (σ : vv_S) (post : Int32 → vv_S → Prop) : Prop := post (σ d 9) σ
def wX3_overInMinute (d : Nat) (σ : vv_S) (post : Int32 → vv_S → Prop) : Prop := post (σ d 13) σ
def wX3_placeOver (d : Nat) (σ : vv_S) (post : Int32 → vv_S → Prop) : Prop := post (σ d 14) σ
def wX3_breachedCell (d : Nat) (σ : vv_S) (post : Int32 → vv_S → Prop) : Prop := post (σ d 15) σ
def wX4_clear (d : Nat) (σ : vv_S) (post : vv_S → Prop) : Prop := ∀ σ1 : vv_S, σ1 = vv_up σ d 2 (0 : Int32) → (∀ σ2 : vv_S, σ2 = vv_up σ1 d 3 (20 : Int32) → (∀ σ3 : vv_S, σ3 = vv_up σ2 d 4 (20 : Int32) → (∀ σ4 : vv_S, σ4 = vv_up σ3 d 5 (6 : Int32) → (∀ σ5 : vv_S, σ5 = vv_up σ4 d 6 (1 : Int32) → ((wX1_clear (d + 3) σ5 (fun σ6 : vv_S => (((wX2_clear (d + 10) σ6 (fun σ7 : vv_S => ((post σ7)))))))))))))
def wX7_size  (σ : vv_S) (post : Int32 → vv_S → Prop) : Prop := post (σ 1 1) σ
def wX7_letterAt (a1 : Int32) (σ : vv_S) (post : Int32 → vv_S → Prop) : Prop := vv_jn (fun (v1 : Int32) => (post v1 σ)) (fun k29_1 : Int32 → Prop => (vv_jn ((k29_1 (0 : Int32))) (fun k28_2 : Prop => (((a1 < 0 → (k28_2)) ∧ (¬ a1 < 0 → ((((σ 1 1) ≤ a1 → (k28_2)) ∧ (¬ (σ 1 1) ≤ a1 → ((((200 : Int32) ≤ a1 → (k28_2)) ∧ (¬ (200 : Int32) ≤ a1 → (vp_in a1 200 ∧ (k29_1 (σ 2 a1.toNatClampNeg)))))))))))))))
def wX7_figureAt (a1 : Int32) (σ : vv_S) (post : Int32 → vv_S → Prop) : Prop := (wX7_letterAt a1 σ (fun (r2 : Int32) (σ1 : vv_S) => ((vv_jn (fun (v3 : Int32) => (post v3 σ1)) (fun k27_3 : Int32 → Prop => (vv_jn ((k27_3 (-4 : Int32))) (fun k25_4 : Prop => (((r2 < (48 : Int32) → (k25_4)) ∧ (¬ r2 < (48 : Int32) → ((((57 : Int32) < r2 → (k25_4)) ∧ (¬ (57 : Int32) < r2 → (k27_3 (r2 - (48 : Int32))))))))))))))))
def wX7_figuresAt (a1 : Int32) (σ : vv_S) (post : Int32 → vv_S → Prop) : Prop := (wX7_figureAt a1 σ (fun (r2 : Int32) (σ1 : vv_S) => ((((¬ r2 = (-4 : Int32) → ((wX7_figureAt (a1 + (1 : Int32)) σ1 (fun (r5 : Int32) (σ4 : vv_S) => ((vv_jn (fun (v6 : Int32) => (post v6 σ4)) (fun k29_6 : Int32 → Prop => (((¬ r5 = (-4 : Int32) → (k29_6 (2 : Int32))) ∧ (r5 = (-4 : Int32) → (k29_6 (1 : Int32)))))))))))) ∧ (r2 = (-4 : Int32) → (post (0 : Int32) σ1)))))))
def lX7_readItem_1 (post : Int32 → vv_S → Prop) : Nat → Int32 → Int32 → vv_S → Prop
  | 0, _, _, _ => False
  | n6 + 1, v3, v4, σ5 => (((4 : Int32) ≤ v4 → (post (-4 : Int32) σ5)) ∧ (¬ (4 : Int32) ≤ v4 → ((wX7_figuresAt v3 σ5 (fun (r9 : Int32) (σ8 : vv_S) => ((((¬ r9 = 0 → (vv_jn (fun (v11 : Int32) (σ12 : vv_S) => (vp_in v4 4 ∧ (∀ σ15 : vv_S, σ15 = vv_up σ12 3 v4.toNatClampNeg v11 → (∀ σ16 : vv_S, σ16 = vv_up σ15 1 3 (v4 + (1 : Int32)) → ((wX7_letterAt (v3 + r9) σ16 (fun (r18 : Int32) (σ17 : vv_S) => ((∀ v19 : Int32, v19 = (v3 + (r9 + (1 : Int32))) → (((¬ r18 = (59 : Int32) → (((r18 = (44 : Int32) → (∀ v22 : Int32, v22 = v4 + (1 : Int32) → (lX7_readItem_1 post n6 v19 v22 σ17))) ∧ (¬ r18 = (44 : Int32) → (post (-4 : Int32) σ17))))) ∧ (r18 = (59 : Int32) → (post v19 σ17))))))))))))) (fun k66_12 : Int32 → vv_S → Prop => (((¬ r9 = (1 : Int32) → ((wX7_figureAt v3 σ8 (fun (r25 : Int32) (σ24 : vv_S) => (((wX7_figureAt (v3 + (1 : Int32)) σ24 (fun (r27 : Int32) (σ26 : vv_S) => ((k66_12 (((10 : Int32) * r25) + r27) σ26)))))))))) ∧ (r9 = (1 : Int32) → ((wX7_figureAt v3 σ8 (fun (r29 : Int32) (σ28 : vv_S) => ((k66_12 r29 σ28))))))))))) ∧ (r9 = 0 → (post (-4 : Int32) σ8))))))))))
def wX7_readItem (a1 : Int32) (σ : vv_S) (post : Int32 → vv_S → Prop) : Prop := ∀ v1 : Int32, v1 = (a1 + (1 : Int32)) → (∀ σ2 : vv_S, σ2 = vv_up σ 1 3 (0 : Int32) → ((∃ n6 : Nat, lX7_readItem_1 post n6 v1 (0 : Int32) σ2)))
def wX7_numberCount  (σ : vv_S) (post : Int32 → vv_S → Prop) : Prop := post (σ 1 3) σ
def wX4_setLake (d : Nat) (a1 : Int32) (a2 : Int32) (σ : vv_S) (post : Int32 → vv_S → Prop) : Prop := ∀ σ1 : vv_S, σ1 = vv_up σ d 5 a1 → (∀ σ2 : vv_S, σ2 = vv_up σ1 d 6 a2 → ((wX8_isWithin a1 (1 : Int32) (20 : Int32) σ2 (fun (r4 : Int32) (σ3 : vv_S) => ((vv_jn (fun (v5 : Int32) => ((v5 = 0 ∨ v5 = 1) ∧ post v5 σ3)) (fun k30_5 : Int32 → Prop => (vv_jn ((k30_5 (0 : Int32))) (fun k29_6 : Prop => (((r4 = 0 → (k29_6)) ∧ (¬ r4 = 0 → ((((5 : Int32) < a2 → (k29_6)) ∧ (¬ (5 : Int32) < a2 → (k30_5 (1 : Int32)))))))))))))))))
def wX4_setBanks (d : Nat) (a1 : Int32) (a2 : Int32) (σ : vv_S) (post : Int32 → vv_S → Prop) : Prop := ∀ σ1 : vv_S, σ1 = vv_up σ d 3 a1 → (∀ σ2 : vv_S, σ2 = vv_up σ1 d 4 a2 → (vv_jn (fun (v3 : Int32) => ((v3 = 0 ∨ v3 = 1) ∧ post v3 σ2)) (fun k27_3 : Int32 → Prop => (vv_jn ((k27_3 (0 : Int32))) (fun k26_4 : Prop => ((((50 : Int32) < a1 → (k26_4)) ∧ (¬ (50 : Int32) < a1 → ((((50 : Int32) < a2 → (k26_4)) ∧ (¬ (50 : Int32) < a2 → (k27_3 (1 : Int32)))))))))))))
def wX4_addCell (d : Nat) (a1 : Int32) (a2 : Int32) (σ : vv_S) (post : Int32 → vv_S → Prop) : Prop := vv_jn (fun (σ1 : vv_S) => (post (0 : Int32) σ1)) (fun k29_1 : vv_S → Prop => ((((σ d 2) < 0 → (k29_1 σ)) ∧ (¬ (σ d 2) < 0 → ((((8 : Int32) ≤ (σ d 2) → (k29_1 σ)) ∧ (¬ (8 : Int32) ≤ (σ d 2) → ((((40 : Int32) < a1 → (k29_1 σ)) ∧ (¬ (40 : Int32) < a1 → ((wX8_isStuff a2 σ (fun (r7 : Int32) (σ6 : vv_S) => ((((¬ r7 = 0 → (vp_in (σ6 d 2) 8 ∧ (∀ σ10 : vv_S, σ10 = vv_up σ6 (d + 1) ((σ6 d 2)).toNatClampNeg a1 → (vp_in (σ10 d 2) 8 ∧ (∀ σ12 : vv_S, σ12 = vv_up σ10 (d + 2) ((σ10 d 2)).toNatClampNeg a2 → (∀ σ13 : vv_S, σ13 = vv_up σ12 d 2 ((σ12 d 2) + (1 : Int32)) → (post (1 : Int32) σ13))))))) ∧ (r7 = 0 → (k29_1 σ6))))))))))))))))))
def wX4_takeItem (d : Nat) (a1 : Int32) (σ : vv_S) (post : Int32 → vv_S → Prop) : Prop := (wX7_numberCount σ (fun (r2 : Int32) (σ1 : vv_S) => (((wX7_numberAt (0 : Int32) σ1 (fun (r4 : Int32) (σ3 : vv_S) => (((wX7_numberAt (1 : Int32) σ3 (fun (r6 : Int32) (σ5 : vv_S) => (((wX7_numberAt (2 : Int32) σ5 (fun (r8 : Int32) (σ7 : vv_S) => ((((a1 = (97 : Int32) → (vv_jn (fun (v10 : Int32) (σ11 : vv_S) => ((v10 = 0 ∨ v10 = 1) ∧ post v10 σ11)) (fun k177_11 : Int32 → vv_S → Prop => (vv_jn (fun (σ13 : vv_S) => (k177_11 (0 : Int32) σ13)) (fun k176_13 : vv_S → Prop => (((¬ r2 = (2 : Int32) → (k176_13 σ7)) ∧ (r2 = (2 : Int32) → ((wX4_setLake d r4 r6 σ7 (fun (r17 : Int32) (σ16 : vv_S) => ((((r17 = 0 → (k176_13 σ16)) ∧ (¬ r17 = 0 → (k177_11 (1 : Int32) σ16)))))))))))))))) ∧ ((a1 = (98 : Int32) → (vv_jn (fun (v20 : Int32) (σ21 : vv_S) => ((v20 = 0 ∨ v20 = 1) ∧ post v20 σ21)) (fun k155_21 : Int32 → vv_S → Prop => (vv_jn (fun (σ23 : vv_S) => (k155_21 (0 : Int32) σ23)) (fun k154_23 : vv_S → Prop => (((¬ r2 = (2 : Int32) → (k154_23 σ7)) ∧ (r2 = (2 : Int32) → ((wX4_setBanks d r4 r6 σ7 (fun (r27 : Int32) (σ26 : vv_S) => ((((r27 = 0 → (k154_23 σ26)) ∧ (¬ r27 = 0 → (k155_21 (1 : Int32) σ26)))))))))))))))) ∧ ((a1 = (99 : Int32) → (vv_jn (fun (v30 : Int32) (σ31 : vv_S) => ((v30 = 0 ∨ v30 = 1) ∧ post v30 σ31)) (fun k133_31 : Int32 → vv_S → Prop => (vv_jn (fun (σ33 : vv_S) => (k133_31 (0 : Int32) σ33)) (fun k132_33 : vv_S → Prop => (((¬ r2 = (2 : Int32) → (k132_33 σ7)) ∧ (r2 = (2 : Int32) → ((wX4_addCell d r4 r6 σ7 (fun (r37 : Int32) (σ36 : vv_S) => ((((r37 = 0 → (k132_33 σ36)) ∧ (¬ r37 = 0 → (k133_31 (1 : Int32) σ36)))))))))))))))) ∧ ((a1 = (102 : Int32) → (vv_jn (fun (v40 : Int32) (σ41 : vv_S) => ((v40 = 0 ∨ v40 = 1) ∧ post v40 σ41)) (fun k202_41 : Int32 → vv_S → Prop => (vv_jn (fun (σ43 : vv_S) => (k202_41 (0 : Int32) σ43)) (fun k201_43 : vv_S → Prop => (((¬ r2 = (2 : Int32) → (k201_43 σ7)) ∧ (r2 = (2 : Int32) → ((wX1_addFlow (d + 3) r4 r6 σ7 (fun (r47 : Int32) (σ46 : vv_S) => ((((r47 = 0 → (k201_43 σ46)) ∧ (¬ r47 = 0 → (k202_41 (1 : Int32) σ46)))))))))))))))) ∧ ((a1 = (106 : Int32) → (vv_jn (fun (v50 : Int32) (σ51 : vv_S) => ((v50 = 0 ∨ v50 = 1) ∧ post v50 σ51)) (fun k285_51 : Int32 → vv_S → Prop => (vv_jn (fun (σ53 : vv_S) => (k285_51 (0 : Int32) σ53)) (fun k284_53 : vv_S → Prop => (((¬ r2 = (3 : Int32) → (k284_53 σ7)) ∧ (r2 = (3 : Int32) → ((((σ7 d 2) ≤ r4 → (k284_53 σ7)) ∧ (¬ (σ7 d 2) ≤ r4 → ((wX2_addJob (d + 10) r6 r8 σ7 (fun (r58 : Int32) (σ57 : vv_S) => ((((r58 = 0 → (k284_53 σ57)) ∧ (¬ r58 = 0 → (k285_51 (1 : Int32) σ57))))))))))))))))))) ∧ ((a1 = (112 : Int32) → (vv_jn (fun (v61 : Int32) (σ62 : vv_S) => ((v61 = 0 ∨ v61 = 1) ∧ post v61 σ62)) (fun k251_62 : Int32 → vv_S → Prop => (vv_jn (fun (σ64 : vv_S) => (k251_62 (0 : Int32) σ64)) (fun k250_64 : vv_S → Prop => (((¬ r2 = (4 : Int32) → (k250_64 σ7)) ∧ (r2 = (4 : Int32) → ((wX2_addChild (d + 10) σ7 (fun (r68 : Int32) (σ67 : vv_S) => ((((r68 = 0 → (k250_64 σ67)) ∧ (¬ r68 = 0 → (k251_62 (1 : Int32) σ67)))))))))))))))) ∧ ((a1 = (114 : Int32) → (vv_jn (fun (v71 : Int32) (σ72 : vv_S) => ((v71 = 0 ∨ v71 = 1) ∧ post v71 σ72)) (fun k229_72 : Int32 → vv_S → Prop => (vv_jn (fun (σ74 : vv_S) => (k229_72 (0 : Int32) σ74)) (fun k228_74 : vv_S → Prop => (((¬ r2 = (3 : Int32) → (k228_74 σ7)) ∧ (r2 = (3 : Int32) → ((wX1_addRain (d + 3) r4 r6 r8 σ7 (fun (r78 : Int32) (σ77 : vv_S) => ((((r78 = 0 → (k228_74 σ77)) ∧ (¬ r78 = 0 → (k229_72 (1 : Int32) σ77)))))))))))))))) ∧ ((¬ a1 = (97 : Int32) ∧ ¬ a1 = (98 : Int32) ∧ ¬ a1 = (99 : Int32) ∧ ¬ a1 = (102 : Int32) ∧ ¬ a1 = (106 : Int32) ∧ ¬ a1 = (112 : Int32) ∧ ¬ a1 = (114 : Int32)) → (post (0 : Int32) σ7)))))))))))))))))))))))))
def lX4_readFrom_1 (k61_2 : vv_S → Prop) (k50_6 : Int32 → vv_S → Prop) (d : Nat) : Nat → Int32 → Int32 → vv_S → Prop
  | 0, _, _, _ => False
  | n11 + 1, v8, v9, σ10 => (((200 : Int32) ≤ v9 → (k61_2 σ10)) ∧ (¬ (200 : Int32) ≤ v9 → ((wX7_size σ10 (fun (r14 : Int32) (σ13 : vv_S) => ((((r14 ≤ v8 → (k61_2 σ13)) ∧ (¬ r14 ≤ v8 → ((wX7_readItem v8 σ13 (fun (r17 : Int32) (σ16 : vv_S) => ((((r17 = (-4 : Int32) → (k50_6 v8 σ16)) ∧ (¬ r17 = (-4 : Int32) → ((wX7_letterAt v8 σ16 (fun (r20 : Int32) (σ19 : vv_S) => (((wX4_takeItem d r20 σ19 (fun (r22 : Int32) (σ21 : vv_S) => ((((¬ r22 = 0 → (∀ v24 : Int32, v24 = v9 + (1 : Int32) → (lX4_readFrom_1 k61_2 k50_6 d n11 r17 v24 σ21))) ∧ (r22 = 0 → (k50_6 v8 σ21))))))))))))))))))))))))))))
def wX4_readFrom (d : Nat) (σ : vv_S) (post : Int32 → vv_S → Prop) : Prop := (wX4_clear d σ (fun σ1 : vv_S => ((vv_jn (fun (σ2 : vv_S) => ((wX1_settle (d + 3) σ2 (fun σ4 : vv_S => ((post (-4 : Int32) σ4)))))) (fun k61_2 : vv_S → Prop => (vv_jn (fun (v5 : Int32) (σ6 : vv_S) => (post v5 σ6)) (fun k50_6 : Int32 → vv_S → Prop => ((∃ n11 : Nat, lX4_readFrom_1 k61_2 k50_6 d n11 (0 : Int32) (0 : Int32) σ1)))))))))
def wX4_crew (d : Nat) (σ : vv_S) (post : vv_S → Prop) : Prop := post σ
def lX5_start_1 (k21_1 : vv_S → Prop) (d : Nat) : Nat → Int32 → vv_S → Prop
  | 0, _, _ => False
  | n7 + 1, v5, σ6 => (((8 : Int32) ≤ v5 → (k21_1 σ6)) ∧ (¬ (8 : Int32) ≤ v5 → (vp_in v5 8 ∧ (∀ σ10 : vv_S, σ10 = vv_up σ6 (d + 1) v5.toNatClampNeg (0 : Int32) → (∀ v11 : Int32, v11 = v5 + (1 : Int32) → (lX5_start_1 k21_1 d n7 v11 σ10))))))
def wX5_start (d : Nat) (a1 : Int32) (a2 : Int32) (σ : vv_S) (post : vv_S → Prop) : Prop := vv_jn (fun (σ1 : vv_S) => (∀ σ3 : vv_S, σ3 = vv_up σ1 (d + 1) 0 a1 → (∀ σ4 : vv_S, σ4 = vv_up σ3 d 1 (if (8 : Int32) < a2 then (8 : Int32) else a2) → (post σ4)))) (fun k21_1 : vv_S → Prop => ((∃ n7 : Nat, lX5_start_1 k21_1 d n7 (0 : Int32) σ)))
def lX5_next_1 (post : Int32 → vv_S → Prop) (σ : vv_S) (d : Nat) (k24_3 : Int32 → Prop) : Nat → Int32 → Prop
  | 0, _ => False
  | n15 + 1, v14 => ((v14 < 0 → (post (0 : Int32) σ)) ∧ (¬ v14 < 0 → (vp_in v14 8 ∧ ((((σ (d + 1) v14.toNatClampNeg) ≤ 0 → (∀ v19 : Int32, v19 = v14 + (-1 : Int32) → (lX5_next_1 post σ d k24_3 n15 v19))) ∧ (¬ (σ (d + 1) v14.toNatClampNeg) ≤ 0 → (k24_3 v14)))))))
def wX5_next (d : Nat) (σ : vv_S) (post : Int32 → vv_S → Prop) : Prop := ∀ v1 : Int32, v1 = ((σ d 1) - (1 : Int32)) → (∀ v2 : Int32, v2 = (v1 - (1 : Int32)) → (vv_jn (fun (v3 : Int32) => (vp_in v1 8 ∧ (∀ v6 : Int32, v6 = ((σ (d + 1) v1.toNatClampNeg) + (1 : Int32)) → (vp_in v1 8 ∧ (∀ σ8 : vv_S, σ8 = vv_up σ (d + 1) v1.toNatClampNeg (0 : Int32) → (vp_in v3 8 ∧ (vp_in v3 8 ∧ (∀ σ11 : vv_S, σ11 = vv_up σ8 (d + 1) v3.toNatClampNeg ((σ8 (d + 1) v3.toNatClampNeg) - (1 : Int32)) → (vp_in (v3 + (1 : Int32)) 8 ∧ (∀ σ13 : vv_S, σ13 = vv_up σ11 (d + 1) ((v3 + (1 : Int32))).toNatClampNeg v6 → (post (1 : Int32) σ13))))))))))) (fun k24_3 : Int32 → Prop => ((∃ n15 : Nat, lX5_next_1 post σ d k24_3 n15 v2)))))
def wX5_inchesAt (d : Nat) (a1 : Int32) (σ : vv_S) (post : Int32 → vv_S → Prop) : Prop := vv_jn (fun (v1 : Int32) => (post v1 σ)) (fun k20_1 : Int32 → Prop => (vv_jn ((k20_1 (0 : Int32))) (fun k19_2 : Prop => (((a1 < 0 → (k19_2)) ∧ (¬ a1 < 0 → ((((8 : Int32) ≤ a1 → (k19_2)) ∧ (¬ (8 : Int32) ≤ a1 → (vp_in a1 8 ∧ (k20_1 (σ (d + 1) a1.toNatClampNeg))))))))))))
def lX5_copyFrom_1 (k26_1 : vv_S → Prop) (d : Nat) (o1 : Nat) : Nat → Int32 → vv_S → Prop
  | 0, _, _ => False
  | n6 + 1, v4, σ5 => (((8 : Int32) ≤ v4 → (k26_1 σ5)) ∧ (¬ (8 : Int32) ≤ v4 → (vp_in v4 8 ∧ (vp_in v4 8 ∧ (∀ σ10 : vv_S, σ10 = vv_up σ5 (d + 1) v4.toNatClampNeg (σ5 (o1 + 1) v4.toNatClampNeg) → (∀ v11 : Int32, v11 = v4 + (1 : Int32) → (lX5_copyFrom_1 k26_1 d o1 n6 v11 σ10)))))))
def wX5_copyFrom (d : Nat) (o1 : Nat) (σ : vv_S) (post : vv_S → Prop) : Prop := vv_jn (fun (σ1 : vv_S) => (∀ σ3 : vv_S, σ3 = vv_up σ1 d 1 (σ1 o1 1) → (post σ3))) (fun k26_1 : vv_S → Prop => ((∃ n6 : Nat, lX5_copyFrom_1 k26_1 d o1 n6 (0 : Int32) σ)))
def wX6_size  (σ : vv_S) (post : Int32 → vv_S → Prop) : Prop := post (σ 66 2) σ
def wX6_clear  (σ : vv_S) (post : vv_S → Prop) : Prop := ∀ σ1 : vv_S, σ1 = vv_up σ 66 2 (0 : Int32) → (post σ1)
def wX6_add (a1 : Int32) (a2 : Int32) (σ : vv_S) (post : Int32 → vv_S → Prop) : Prop := vv_jn ((post (0 : Int32) σ)) (fun k16_0 : Prop => ((((σ 66 2) < 0 → (k16_0)) ∧ (¬ (σ 66 2) < 0 → ((((σ 66 2) < (8 : Int32) → (vp_in (σ 66 2) 8 ∧ (∀ σ5 : vv_S, σ5 = vv_up σ 67 ((σ 66 2)).toNatClampNeg a1 → (vp_in (σ5 66 2) 8 ∧ (∀ σ7 : vv_S, σ7 = vv_up σ5 68 ((σ5 66 2)).toNatClampNeg a2 → (∀ σ8 : vv_S, σ8 = vv_up σ7 66 2 ((σ7 66 2) + (1 : Int32)) → (post (1 : Int32) σ8))))))) ∧ (¬ (σ 66 2) < (8 : Int32) → (k16_0))))))))
def lX6_agreeWith_1 (k45_1 : vv_S → Prop) (o2 : Nat) (a1 : Int32) (post : Int32 → vv_S → Prop) : Nat → Int32 → vv_S → Prop
  | 0, _, _ => False
  | n5 + 1, v3, σ4 => (((σ4 66 2) ≤ v3 → (k45_1 σ4)) ∧ (¬ (σ4 66 2) ≤ v3 → ((((8 : Int32) ≤ v3 → (k45_1 σ4)) ∧ (¬ (8 : Int32) ≤ v3 → (vp_in v3 8 ∧ ((wX4_levelOf o2 (a1 * (σ4 68 v3.toNatClampNeg)) σ4 (fun (r10 : Int32) (σ9 : vv_S) => ((vp_in v3 8 ∧ (((r10 = (σ9 67 v3.toNatClampNeg) → (∀ v13 : Int32, v13 = v3 + (1 : Int32) → (lX6_agreeWith_1 k45_1 o2 a1 post n5 v13 σ9))) ∧ (¬ r10 = (σ9 67 v3.toNatClampNeg) → (post (0 : Int32) σ9)))))))))))))))
def wX6_agreeWith (a1 : Int32) (o2 : Nat) (σ : vv_S) (post : Int32 → vv_S → Prop) : Prop := vv_jn (fun (σ1 : vv_S) => (post (1 : Int32) σ1)) (fun k45_1 : vv_S → Prop => ((∃ n5 : Nat, lX6_agreeWith_1 k45_1 o2 a1 post n5 (0 : Int32) σ)))
def wX7_clear  (σ : vv_S) (post : vv_S → Prop) : Prop := ∀ σ1 : vv_S, σ1 = vv_up σ 1 1 (0 : Int32) → (post σ1)
def wX7_add (a1 : Int32) (σ : vv_S) (post : Int32 → vv_S → Prop) : Prop := vv_jn ((post (0 : Int32) σ)) (fun k17_0 : Prop => ((((σ 1 1) < 0 → (k17_0)) ∧ (¬ (σ 1 1) < 0 → ((((σ 1 1) < (200 : Int32) → (vp_in (σ 1 1) 200 ∧ (∀ σ5 : vv_S, σ5 = vv_up σ 2 ((σ 1 1)).toNatClampNeg a1 → (∀ σ6 : vv_S, σ6 = vv_up σ5 1 1 ((σ5 1 1) + (1 : Int32)) → (post (1 : Int32) σ6))))) ∧ (¬ (σ 1 1) < (200 : Int32) → (k17_0))))))))
end
section
set_option maxHeartbeats 2000000 in
set_option maxRecDepth 100000 in
theorem mX0_size {Y : vv_Y} (hY : Y.2.2.2.2 = wC) {d : Nat} (hd : is_X0 d) {σ : vv_S} {post : Int32 → vv_S → Prop} (h : wX0_size d σ post) : vv_MI Y yX0_size cX0_size 1 (some .int) 0 0 [.ref (vv_q Y d)] σ post := by
  refine vv_ofI (by decide) (Nat.le_of_ble_eq_true rfl) (fun X C => ?_)
  have C : VC Y X RX0 cX0_size 1 (some .int) 0 0 := C
  refine vv_sub [0] (L' := [(0, .ref (vv_q Y d))]) rfl ?_
  refine vv_aload_n C 0 dX0_size_0 rfl rfl ?_
  refine vv_geti C kc_X0 (s_X0 hY hd) 4 (by decide) rfl fk_X0_24 dX0_size_1 ?_
  exact vv_iret C dX0_size_4 h
set_option maxHeartbeats 2000000 in
set_option maxRecDepth 100000 in
theorem mX0_clear {Y : vv_Y} (hY : Y.2.2.2.2 = wC) {d : Nat} (hd : is_X0 d) {σ : vv_S} {post : vv_S → Prop} (h : wX0_clear d σ post) : vv_MV Y yX0_clear cX0_clear 1 none 0 0 [.ref (vv_q Y d)] σ post := by
  refine vv_ofV (by decide) (Nat.le_of_ble_eq_true rfl) (fun X C => ?_)
  have C : VC Y X RX0 cX0_clear 1 none 0 0 := C
  refine vv_sub [0] (L' := [(0, .ref (vv_q Y d))]) rfl ?_
  refine vv_aload_n C 0 dX0_clear_0 rfl rfl ?_
  refine vv_iconst C dX0_clear_1 ki_0 ?_
  refine vv_puti C kc_X0 (s_X0 hY hd) 4 (by decide) rfl pf_X0_4 fk_X0_24 dX0_clear_2 (fun σ1 eσ1 => ?_)
  replace h := h σ1 eσ1
  exact vv_vret C dX0_clear_5 h
set_option maxHeartbeats 2000000 in
set_option maxRecDepth 100000 in
theorem mX0_add {Y : vv_Y} (hY : Y.2.2.2.2 = wC) {d : Nat} (hd : is_X0 d) {a1 : Int32} {a2 : Int32} {a3 : Int32} {a4 : Int32} {σ : vv_S} {post : Int32 → vv_S → Prop} (h : wX0_add d a1 a2 a3 a4 σ post) : vv_MI Y yX0_add cX0_add 5 (some .boolean) 0 0 [.ref (vv_q Y d), .int a1, .int a2, .int a3, .int a4] σ post := by
  refine vv_ofI (by decide) (Nat.le_of_ble_eq_true rfl) (fun X C => ?_)
  have C : VC Y X RX0 cX0_add 5 (some .boolean) 0 0 := C
  refine vv_sub [0, 1, 2, 3, 4] (L' := [(0, .ref (vv_q Y d)), (1, .int a1), (2, .int a2), (3, .int a3), (4, .int a4)]) rfl ?_
  refine vv_aload_n C 0 dX0_add_0 rfl rfl ?_
  refine vv_geti C kc_X0 (s_X0 hY hd) 4 (by decide) rfl fk_X0_24 dX0_add_1 ?_
  refine vv_join (fun k =>  k → VJ Y X (va_Qi post (vv_B Y) X.2) 5 16 [] [] σ) h (fun h => ?_) (fun k16_0 hJk16_0 h => ?_)
  · refine vv_iconst C dX0_add_16 ki_0 ?_
    exact vv_zret C (Or.inl rfl) dX0_add_17 h
  · refine vv_if_lt (pc := 4) C 16 dX0_add_4 (by decide) (fun hc2 => ?_) (fun hc2 => ?_)
    · replace h := h.1 hc2
      refine vv_sub [] (L' := []) rfl ?_
      exact hJk16_0 h
    · replace h := h.2 hc2
      refine vv_aload_n C 0 dX0_add_7 rfl rfl ?_
      refine vv_geti C kc_X0 (s_X0 hY hd) 4 (by decide) rfl fk_X0_24 dX0_add_8 ?_
      refine vv_bipush C dX0_add_11 kb_30 ?_
      refine vv_icmp_lt (pc := 13) C 18 dX0_add_13 (by decide) (fun hc3 => ?_) (fun hc3 => ?_)
      · replace h := h.1 hc3
        refine vv_aload_n C 0 dX0_add_18 rfl rfl ?_
        refine vv_getr (r := (d + 1)) C kc_X0 (s_X0 hY hd) 0 (by decide) rfl fk_X0_9 dX0_add_19 ?_
        refine vv_aload_n C 0 dX0_add_22 rfl rfl ?_
        refine vv_geti C kc_X0 (s_X0 hY hd) 4 (by decide) rfl fk_X0_24 dX0_add_23 ?_
        refine vv_iload_n C 1 dX0_add_26 rfl rfl ?_
        obtain ⟨hi4, h⟩ := h
        refine vv_iast C (a_X0_kinds hY hd) hi4 rfl dX0_add_27 (fun σ5 eσ5 => ?_)
        replace h := h σ5 eσ5
        refine vv_aload_n C 0 dX0_add_28 rfl rfl ?_
        refine vv_getr (r := (d + 2)) C kc_X0 (s_X0 hY hd) 1 (by decide) rfl fk_X0_15 dX0_add_29 ?_
        refine vv_aload_n C 0 dX0_add_32 rfl rfl ?_
        refine vv_geti C kc_X0 (s_X0 hY hd) 4 (by decide) rfl fk_X0_24 dX0_add_33 ?_
        refine vv_iload_n C 2 dX0_add_36 rfl rfl ?_
        obtain ⟨hi6, h⟩ := h
        refine vv_iast C (a_X0_places hY hd) hi6 rfl dX0_add_37 (fun σ7 eσ7 => ?_)
        replace h := h σ7 eσ7
        refine vv_aload_n C 0 dX0_add_38 rfl rfl ?_
        refine vv_getr (r := (d + 3)) C kc_X0 (s_X0 hY hd) 2 (by decide) rfl fk_X0_18 dX0_add_39 ?_
        refine vv_aload_n C 0 dX0_add_42 rfl rfl ?_
        refine vv_geti C kc_X0 (s_X0 hY hd) 4 (by decide) rfl fk_X0_24 dX0_add_43 ?_
        refine vv_iload_n C 3 dX0_add_46 rfl rfl ?_
        obtain ⟨hi8, h⟩ := h
        refine vv_iast C (a_X0_stuffs hY hd) hi8 rfl dX0_add_47 (fun σ9 eσ9 => ?_)
        replace h := h σ9 eσ9
        refine vv_aload_n C 0 dX0_add_48 rfl rfl ?_
        refine vv_getr (r := (d + 4)) C kc_X0 (s_X0 hY hd) 3 (by decide) rfl fk_X0_21 dX0_add_49 ?_
        refine vv_aload_n C 0 dX0_add_52 rfl rfl ?_
        refine vv_geti C kc_X0 (s_X0 hY hd) 4 (by decide) rfl fk_X0_24 dX0_add_53 ?_
        refine vv_iload C 4 dX0_add_56 rfl ?_
        obtain ⟨hi10, h⟩ := h
        refine vv_iast C (a_X0_amounts hY hd) hi10 rfl dX0_add_58 (fun σ11 eσ11 => ?_)
        replace h := h σ11 eσ11
        refine vv_aload_n C 0 dX0_add_59 rfl rfl ?_
        refine vv_dup C dX0_add_60 rfl ?_
        refine vv_geti C kc_X0 (s_X0 hY hd) 4 (by decide) rfl fk_X0_24 dX0_add_61 ?_
        refine vv_iconst C dX0_add_64 ki_1 ?_
        refine vv_iadd C dX0_add_65 ?_
        refine vv_puti C kc_X0 (s_X0 hY hd) 4 (by decide) rfl pf_X0_4 fk_X0_24 dX0_add_66 (fun σ12 eσ12 => ?_)
        replace h := h σ12 eσ12
        refine vv_iconst C dX0_add_69 ki_1 ?_
        exact vv_zret C (Or.inr rfl) dX0_add_70 h
      · replace h := h.2 hc3
        refine vv_sub [] (L' := []) rfl ?_
        exact hJk16_0 h
set_option maxHeartbeats 2000000 in
set_option maxRecDepth 100000 in
theorem mX0_dropLast {Y : vv_Y} (hY : Y.2.2.2.2 = wC) {d : Nat} (hd : is_X0 d) {σ : vv_S} {post : vv_S → Prop} (h : wX0_dropLast d σ post) : vv_MV Y yX0_dropLast cX0_dropLast 1 none 1 14 [.ref (vv_q Y d)] σ post := by
  refine vv_ofV (by decide) (Nat.le_of_ble_eq_true rfl) (fun X C => ?_)
  have C : VC Y X RX0 cX0_dropLast 1 none 1 14 := C
  refine vv_sub [0] (L' := [(0, .ref (vv_q Y d))]) rfl ?_
  refine vv_aload_n C 0 dX0_dropLast_0 rfl rfl ?_
  refine vv_iconst C dX0_dropLast_1 ki_0 ?_
  refine vv_aload_n C 0 dX0_dropLast_2 rfl rfl ?_
  refine vv_geti C kc_X0 (s_X0 hY hd) 4 (by decide) rfl fk_X0_24 dX0_dropLast_3 ?_
  refine vv_iconst C dX0_dropLast_6 ki_1 ?_
  refine vv_isub C dX0_dropLast_7 ?_
  refine vv_max C lk_X0_28 mk_max (by decide) (Nat.le_of_ble_eq_true rfl) dX0_dropLast_8 ?_
  refine vv_puti C kc_X0 (s_X0 hY hd) 4 (by decide) rfl pf_X0_4 fk_X0_24 dX0_dropLast_11 (fun σ1 eσ1 => ?_)
  replace h := h σ1 eσ1
  exact vv_vret C dX0_dropLast_14 h
set_option maxHeartbeats 2000000 in
set_option maxRecDepth 100000 in
theorem mX0_copyFrom {Y : vv_Y} (hY : Y.2.2.2.2 = wC) {d : Nat} (hd : is_X0 d) {o1 : Nat} (ho1 : is_X0 o1) {σ : vv_S} {post : vv_S → Prop} (h : wX0_copyFrom d o1 σ post) : vv_MV Y yX0_copyFrom cX0_copyFrom 3 none 0 0 [.ref (vv_q Y d), .ref (vv_q Y o1)] σ post := by
  refine vv_ofV (by decide) (Nat.le_of_ble_eq_true rfl) (fun X C => ?_)
  have C : VC Y X RX0 cX0_copyFrom 3 none 0 0 := C
  refine vv_sub [0, 1] (L' := [(0, .ref (vv_q Y d)), (1, .ref (vv_q Y o1))]) rfl ?_
  refine vv_iconst C dX0_copyFrom_0 ki_0 ?_
  refine vv_istore_n (L' := [(2, .int (0 : Int32)), (0, .ref (vv_q Y d)), (1, .ref (vv_q Y o1))]) C dX0_copyFrom_1 rfl (by decide) rfl ?_
  refine vv_join (fun k => ∀ (σ1 : vv_S), k σ1 → VJ Y X (va_Qv post (vv_B Y) X.2) 3 62 [(0, .ref (vv_q Y d)), (1, .ref (vv_q Y o1))] [] σ1) h (fun σ1 h => ?_) (fun k62_1 hJk62_1 h => ?_)
  · refine vv_aload_n C 0 dX0_copyFrom_62 rfl rfl ?_
    refine vv_aload_n C 1 dX0_copyFrom_63 rfl rfl ?_
    refine vv_geti C kc_X0 (s_X0 hY ho1) 4 (by decide) rfl fk_X0_24 dX0_copyFrom_64 ?_
    refine vv_puti C kc_X0 (s_X0 hY hd) 4 (by decide) rfl pf_X0_4 fk_X0_24 dX0_copyFrom_67 (fun σ3 eσ3 => ?_)
    replace h := h σ3 eσ3
    exact vv_vret C dX0_copyFrom_70 h
  · obtain ⟨n6, h⟩ := h
    have hl1 : ∀ (n6 : Nat) (v4 : Int32) (σ5 : vv_S), lX0_copyFrom_1 k62_1 d o1 n6 v4 σ5 → VJ Y X (va_Qv post (vv_B Y) X.2) 3 2 [(0, .ref (vv_q Y d)), (1, .ref (vv_q Y o1)), (2, .int v4)] [] σ5 := by
      clear h
      intro n6
      induction n6 with
      | zero => intro v4 σ5 h; exact False.elim h
      | succ n6 ih1 =>
        intro v4 σ5 h
        refine vv_iload_n C 2 dX0_copyFrom_2 rfl rfl ?_
        refine vv_bipush C dX0_copyFrom_3 kb_30 ?_
        refine vv_icmp_ge (pc := 5) C 62 dX0_copyFrom_5 (by decide) (fun hc7 => ?_) (fun hc7 => ?_)
        · replace h := h.1 hc7
          refine vv_sub [0, 1] (L' := [(0, .ref (vv_q Y d)), (1, .ref (vv_q Y o1))]) rfl ?_
          exact hJk62_1 _ h
        · replace h := h.2 hc7
          refine vv_aload_n C 0 dX0_copyFrom_8 rfl rfl ?_
          refine vv_getr (r := (d + 1)) C kc_X0 (s_X0 hY hd) 0 (by decide) rfl fk_X0_9 dX0_copyFrom_9 ?_
          refine vv_iload_n C 2 dX0_copyFrom_12 rfl rfl ?_
          refine vv_aload_n C 1 dX0_copyFrom_13 rfl rfl ?_
          refine vv_getr (r := (o1 + 1)) C kc_X0 (s_X0 hY ho1) 0 (by decide) rfl fk_X0_9 dX0_copyFrom_14 ?_
          refine vv_iload_n C 2 dX0_copyFrom_17 rfl rfl ?_
          obtain ⟨hi8, h⟩ := h
          refine vv_iald C (a_X0_kinds hY ho1) hi8 rfl dX0_copyFrom_18 ?_
          obtain ⟨hi9, h⟩ := h
          refine vv_iast C (a_X0_kinds hY hd) hi9 rfl dX0_copyFrom_19 (fun σ10 eσ10 => ?_)
          replace h := h σ10 eσ10
          refine vv_aload_n C 0 dX0_copyFrom_20 rfl rfl ?_
          refine vv_getr (r := (d + 2)) C kc_X0 (s_X0 hY hd) 1 (by decide) rfl fk_X0_15 dX0_copyFrom_21 ?_
          refine vv_iload_n C 2 dX0_copyFrom_24 rfl rfl ?_
          refine vv_aload_n C 1 dX0_copyFrom_25 rfl rfl ?_
          refine vv_getr (r := (o1 + 2)) C kc_X0 (s_X0 hY ho1) 1 (by decide) rfl fk_X0_15 dX0_copyFrom_26 ?_
          refine vv_iload_n C 2 dX0_copyFrom_29 rfl rfl ?_
          obtain ⟨hi11, h⟩ := h
          refine vv_iald C (a_X0_places hY ho1) hi11 rfl dX0_copyFrom_30 ?_
          obtain ⟨hi12, h⟩ := h
          refine vv_iast C (a_X0_places hY hd) hi12 rfl dX0_copyFrom_31 (fun σ13 eσ13 => ?_)
          replace h := h σ13 eσ13
          refine vv_aload_n C 0 dX0_copyFrom_32 rfl rfl ?_
          refine vv_getr (r := (d + 3)) C kc_X0 (s_X0 hY hd) 2 (by decide) rfl fk_X0_18 dX0_copyFrom_33 ?_
          refine vv_iload_n C 2 dX0_copyFrom_36 rfl rfl ?_
          refine vv_aload_n C 1 dX0_copyFrom_37 rfl rfl ?_
          refine vv_getr (r := (o1 + 3)) C kc_X0 (s_X0 hY ho1) 2 (by decide) rfl fk_X0_18 dX0_copyFrom_38 ?_
          refine vv_iload_n C 2 dX0_copyFrom_41 rfl rfl ?_
          obtain ⟨hi14, h⟩ := h
          refine vv_iald C (a_X0_stuffs hY ho1) hi14 rfl dX0_copyFrom_42 ?_
          obtain ⟨hi15, h⟩ := h
          refine vv_iast C (a_X0_stuffs hY hd) hi15 rfl dX0_copyFrom_43 (fun σ16 eσ16 => ?_)
          replace h := h σ16 eσ16
          refine vv_aload_n C 0 dX0_copyFrom_44 rfl rfl ?_
          refine vv_getr (r := (d + 4)) C kc_X0 (s_X0 hY hd) 3 (by decide) rfl fk_X0_21 dX0_copyFrom_45 ?_
          refine vv_iload_n C 2 dX0_copyFrom_48 rfl rfl ?_
          refine vv_aload_n C 1 dX0_copyFrom_49 rfl rfl ?_
          refine vv_getr (r := (o1 + 4)) C kc_X0 (s_X0 hY ho1) 3 (by decide) rfl fk_X0_21 dX0_copyFrom_50 ?_
          refine vv_iload_n C 2 dX0_copyFrom_53 rfl rfl ?_
          obtain ⟨hi17, h⟩ := h
          refine vv_iald C (a_X0_amounts hY ho1) hi17 rfl dX0_copyFrom_54 ?_
          obtain ⟨hi18, h⟩ := h
          refine vv_iast C (a_X0_amounts hY hd) hi18 rfl dX0_copyFrom_55 (fun σ19 eσ19 => ?_)
          replace h := h σ19 eσ19
          obtain ⟨v20, ev20⟩ : ∃ z : Int32, z = v4 + (1 : Int32) := ⟨_, rfl⟩
          replace h := h v20 ev20
          refine vv_iinc (v := v20) (L' := [(2, .int v20), (0, .ref (vv_q Y d)), (1, .ref (vv_q Y o1))]) C 2 dX0_copyFrom_56 rfl ((kinc ki_1).trans ev20.symm) (by decide) rfl ?_
          refine vv_goto (pc := 59) (tgt := 2) C dX0_copyFrom_59 (by decide) ?_
          refine vv_sub [1, 2, 0] (L' := [(0, .ref (vv_q Y d)), (1, .ref (vv_q Y o1)), (2, .int v20)]) rfl ?_
          exact ih1 _ _ h
    refine vv_sub [1, 2, 0] (L' := [(0, .ref (vv_q Y d)), (1, .ref (vv_q Y o1)), (2, .int (0 : Int32))]) rfl ?_
    exact hl1 n6 _ _ h
set_option maxHeartbeats 2000000 in
set_option maxRecDepth 100000 in
theorem mX4_left {Y : vv_Y} (hY : Y.2.2.2.2 = wC) {d : Nat} (hd : is_X4 d) {σ : vv_S} {post : Int32 → vv_S → Prop} (h : wX4_left d σ post) : vv_MI Y yX4_left cX4_left 1 (some .int) 0 0 [.ref (vv_q Y d)] σ post := by
  refine vv_ofI (by decide) (Nat.le_of_ble_eq_true rfl) (fun X C => ?_)
  have C : VC Y X RX4 cX4_left 1 (some .int) 0 0 := C
  refine vv_sub [0] (L' := [(0, .ref (vv_q Y d))]) rfl ?_
  refine vv_aload_n C 0 dX4_left_0 rfl rfl ?_
  refine vv_geti C kc_X4 (s_X4 hY hd) 3 (by decide) rfl fk_X4_59 dX4_left_1 ?_
  exact vv_iret C dX4_left_4 h
set_option maxHeartbeats 2000000 in
set_option maxRecDepth 100000 in
theorem mX4_right {Y : vv_Y} (hY : Y.2.2.2.2 = wC) {d : Nat} (hd : is_X4 d) {σ : vv_S} {post : Int32 → vv_S → Prop} (h : wX4_right d σ post) : vv_MI Y yX4_right cX4_right 1 (some .int) 0 0 [.ref (vv_q Y d)] σ post := by
  refine vv_ofI (by decide) (Nat.le_of_ble_eq_true rfl) (fun X C => ?_)
  have C : VC Y X RX4 cX4_right 1 (some .int) 0 0 := C
  refine vv_sub [0] (L' := [(0, .ref (vv_q Y d))]) rfl ?_
  refine vv_aload_n C 0 dX4_right_0 rfl rfl ?_
  refine vv_geti C kc_X4 (s_X4 hY hd) 4 (by decide) rfl fk_X4_62 dX4_right_1 ?_
  exact vv_iret C dX4_right_4 h
set_option maxHeartbeats 2000000 in
set_option maxRecDepth 100000 in
theorem mX4_cellCount {Y : vv_Y} (hY : Y.2.2.2.2 = wC) {d : Nat} (hd : is_X4 d) {σ : vv_S} {post : Int32 → vv_S → Prop} (h : wX4_cellCount d σ post) : vv_MI Y yX4_cellCount cX4_cellCount 1 (some .int) 0 0 [.ref (vv_q Y d)] σ post := by
  refine vv_ofI (by decide) (Nat.le_of_ble_eq_true rfl) (fun X C => ?_)
  have C : VC Y X RX4 cX4_cellCount 1 (some .int) 0 0 := C
  refine vv_sub [0] (L' := [(0, .ref (vv_q Y d))]) rfl ?_
  refine vv_aload_n C 0 dX4_cellCount_0 rfl rfl ?_
  refine vv_geti C kc_X4 (s_X4 hY hd) 2 (by decide) rfl fk_X4_55 dX4_cellCount_1 ?_
  exact vv_iret C dX4_cellCount_4 h
set_option maxHeartbeats 2000000 in
set_option maxRecDepth 100000 in
theorem mX4_takes {Y : vv_Y} (hY : Y.2.2.2.2 = wC) {d : Nat} (hd : is_X4 d) {a1 : Int32} {σ : vv_S} {post : Int32 → vv_S → Prop} (h : wX4_takes d a1 σ post) : vv_MI Y yX4_takes cX4_takes 2 (some .int) 0 0 [.ref (vv_q Y d), .int a1] σ post := by
  refine vv_ofI (by decide) (Nat.le_of_ble_eq_true rfl) (fun X C => ?_)
  have C : VC Y X RX4 cX4_takes 2 (some .int) 0 0 := C
  refine vv_sub [0, 1] (L' := [(0, .ref (vv_q Y d)), (1, .int a1)]) rfl ?_
  refine vv_aload_n C 0 dX4_takes_0 rfl rfl ?_
  refine vv_geti C kc_X4 (s_X4 hY hd) 5 (by decide) rfl fk_X4_65 dX4_takes_1 ?_
  refine vv_iload_n C 1 dX4_takes_4 rfl rfl ?_
  refine vv_imul C dX4_takes_5 ?_
  refine vv_aload_n C 0 dX4_takes_6 rfl rfl ?_
  refine vv_geti C kc_X4 (s_X4 hY hd) 6 (by decide) rfl fk_X4_68 dX4_takes_7 ?_
  refine vv_iload_n C 1 dX4_takes_10 rfl rfl ?_
  refine vv_iload_n C 1 dX4_takes_11 rfl rfl ?_
  refine vv_iconst C dX4_takes_12 ki_1 ?_
  refine vv_iadd C dX4_takes_13 ?_
  refine vv_imul C dX4_takes_14 ?_
  refine vv_iconst C dX4_takes_15 ki_2 ?_
  refine vv_idiv C dX4_takes_16 (by decide) ?_
  refine vv_imul C dX4_takes_17 ?_
  refine vv_iadd C dX4_takes_18 ?_
  exact vv_iret C dX4_takes_19 h
set_option maxHeartbeats 2000000 in
set_option maxRecDepth 100000 in
theorem mX3_survey {Y : vv_Y} (hY : Y.2.2.2.2 = wC) {d : Nat} (hd : is_X3 d) {σ : vv_S} {post : vv_S → Prop} (h : wX3_survey d σ post) : vv_MV Y yX3_survey cX3_survey 2 none 1 21 [.ref (vv_q Y d)] σ post := by
  refine vv_ofV (by decide) (Nat.le_of_ble_eq_true rfl) (fun X C => ?_)
  have C : VC Y X RX3 cX3_survey 2 none 1 21 := C
  refine vv_sub [0] (L' := [(0, .ref (vv_q Y d))]) rfl ?_
  refine vv_aload_n C 0 dX3_survey_0 rfl rfl ?_
  refine vv_aload_n C 0 dX3_survey_1 rfl rfl ?_
  refine vv_getr (r := 4) C kc_X3 (s_X3 hY hd) 0 (by decide) rfl fk_X3_21 dX3_survey_2 ?_
  refine vv_callI (rest := [.ref (vv_q Y d)]) C yk_X4_left vk_X4_left lk_X3_50 kc_X4.1 (s_X4 hY (show is_X4 4 by decide)) dX3_survey_5 (mX4_left hY (show is_X4 4 by decide) h) rfl rfl ⟨Nat.le_of_ble_eq_true rfl, Nat.le_of_ble_eq_true rfl⟩ (Nat.le_of_ble_eq_true rfl) (fun r2 σ1 h => ?_)
  refine vv_aload_n C 0 dX3_survey_8 rfl rfl ?_
  refine vv_getr (r := 4) C kc_X3 (s_X3 hY hd) 0 (by decide) rfl fk_X3_21 dX3_survey_9 ?_
  refine vv_callI (rest := [.int r2, .ref (vv_q Y d)]) C yk_X4_right vk_X4_right lk_X3_54 kc_X4.1 (s_X4 hY (show is_X4 4 by decide)) dX3_survey_12 (mX4_right hY (show is_X4 4 by decide) h) rfl rfl ⟨Nat.le_of_ble_eq_true rfl, Nat.le_of_ble_eq_true rfl⟩ (Nat.le_of_ble_eq_true rfl) (fun r4 σ3 h => ?_)
  refine vv_min C lk_X3_57 mk_min (by decide) (Nat.le_of_ble_eq_true rfl) dX3_survey_15 ?_
  refine vv_puti C kc_X3 (s_X3 hY hd) 8 (by decide) rfl pf_X3_8 fk_X3_63 dX3_survey_18 (fun σ5 eσ5 => ?_)
  replace h := h σ5 eσ5
  refine vv_aload_n C 0 dX3_survey_21 rfl rfl ?_
  refine vv_aload_n C 0 dX3_survey_22 rfl rfl ?_
  refine vv_geti C kc_X3 (s_X3 hY hd) 8 (by decide) rfl fk_X3_63 dX3_survey_23 ?_
  refine vv_aload_n C 0 dX3_survey_26 rfl rfl ?_
  refine vv_getr (r := 4) C kc_X3 (s_X3 hY hd) 0 (by decide) rfl fk_X3_21 dX3_survey_27 ?_
  refine vv_callI (rest := [.int (σ5 d 8), .ref (vv_q Y d)]) C yk_X4_left vk_X4_left lk_X3_50 kc_X4.1 (s_X4 hY (show is_X4 4 by decide)) dX3_survey_30 (mX4_left hY (show is_X4 4 by decide) h) rfl rfl ⟨Nat.le_of_ble_eq_true rfl, Nat.le_of_ble_eq_true rfl⟩ (Nat.le_of_ble_eq_true rfl) (fun r7 σ6 h => ?_)
  refine vv_join (fun k => ∀ (v8 : Int32), k v8 → VJ Y X (va_Qv post (vv_B Y) X.2) 2 43 [(0, .ref (vv_q Y d))] [.int v8, .ref (vv_q Y d)] σ6) h (fun v8 h => ?_) (fun k43_8 hJk43_8 h => ?_)
  · refine vv_puti C kc_X3 (s_X3 hY hd) 9 (by decide) rfl pf_X3_9 fk_X3_66 dX3_survey_43 (fun σ10 eσ10 => ?_)
    replace h := h σ10 eσ10
    refine vv_aload_n C 0 dX3_survey_46 rfl rfl ?_
    refine vv_iconst C dX3_survey_47 ki_0 ?_
    refine vv_puti C kc_X3 (s_X3 hY hd) 11 (by decide) rfl pf_X3_11 fk_X3_69 dX3_survey_48 (fun σ11 eσ11 => ?_)
    replace h := h σ11 eσ11
    refine vv_aload_n C 0 dX3_survey_51 rfl rfl ?_
    refine vv_iconst C dX3_survey_52 ki_0 ?_
    refine vv_puti C kc_X3 (s_X3 hY hd) 12 (by decide) rfl pf_X3_12 fk_X3_72 dX3_survey_53 (fun σ12 eσ12 => ?_)
    replace h := h σ12 eσ12
    refine vv_aload_n C 0 dX3_survey_56 rfl rfl ?_
    refine vv_getr (r := 4) C kc_X3 (s_X3 hY hd) 0 (by decide) rfl fk_X3_21 dX3_survey_57 ?_
    refine vv_callI (rest := []) C yk_X4_cellCount vk_X4_cellCount lk_X3_75 kc_X4.1 (s_X4 hY (show is_X4 4 by decide)) dX3_survey_60 (mX4_cellCount hY (show is_X4 4 by decide) h) rfl rfl ⟨Nat.le_of_ble_eq_true rfl, Nat.le_of_ble_eq_true rfl⟩ (Nat.le_of_ble_eq_true rfl) (fun r14 σ13 h => ?_)
    refine vv_bipush C dX3_survey_63 kb_8 ?_
    refine vv_min C lk_X3_57 mk_min (by decide) (Nat.le_of_ble_eq_true rfl) dX3_survey_65 ?_
    refine vv_iconst C dX3_survey_68 ki_1 ?_
    refine vv_isub C dX3_survey_69 ?_
    refine vv_nm (fun v15 ev15 => ?_)
    replace h := h v15 ev15
    refine vv_istore_n (L' := [(1, .int v15), (0, .ref (vv_q Y d))]) C dX3_survey_70 rfl (by decide) rfl ?_
    refine vv_join (fun k => ∀ (σ16 : vv_S), k σ16 → VJ Y X (va_Qv post (vv_B Y) X.2) 2 166 [(0, .ref (vv_q Y d))] [] σ16) h (fun σ16 h => ?_) (fun k166_16 hJk166_16 h => ?_)
    · refine vv_aload_n C 0 dX3_survey_166 rfl rfl ?_
      refine vv_aload_n C 0 dX3_survey_167 rfl rfl ?_
      refine vv_getr (r := 4) C kc_X3 (s_X3 hY hd) 0 (by decide) rfl fk_X3_21 dX3_survey_168 ?_
      refine vv_aload_n C 0 dX3_survey_171 rfl rfl ?_
      refine vv_geti C kc_X3 (s_X3 hY hd) 8 (by decide) rfl fk_X3_63 dX3_survey_172 ?_
      refine vv_callI (rest := [.ref (vv_q Y d)]) C yk_X4_takes vk_X4_takes lk_X3_78 kc_X4.1 (s_X4 hY (show is_X4 4 by decide)) dX3_survey_175 (mX4_takes hY (show is_X4 4 by decide) h) rfl rfl ⟨Nat.le_of_ble_eq_true rfl, Nat.le_of_ble_eq_true rfl⟩ (Nat.le_of_ble_eq_true rfl) (fun r19 σ18 h => ?_)
      refine vv_puti C kc_X3 (s_X3 hY hd) 10 (by decide) rfl pf_X3_10 fk_X3_81 dX3_survey_178 (fun σ20 eσ20 => ?_)
      replace h := h σ20 eσ20
      exact vv_vret C dX3_survey_181 h
    · obtain ⟨n23, h⟩ := h
      have hl1 : ∀ (n23 : Nat) (v21 : Int32) (σ22 : vv_S), lX3_survey_1 k166_16 d n23 v21 σ22 → VJ Y X (va_Qv post (vv_B Y) X.2) 2 71 [(0, .ref (vv_q Y d)), (1, .int v21)] [] σ22 := by
        clear h
        intro n23
        induction n23 with
        | zero => intro v21 σ22 h; exact False.elim h
        | succ n23 ih1 =>
          intro v21 σ22 h
          refine vv_iload_n C 1 dX3_survey_71 rfl rfl ?_
          refine vv_if_lt (pc := 72) C 166 dX3_survey_72 (by decide) (fun hc24 => ?_) (fun hc24 => ?_)
          · replace h := h.1 hc24
            refine vv_sub [0] (L' := [(0, .ref (vv_q Y d))]) rfl ?_
            exact hJk166_16 _ h
          · replace h := h.2 hc24
            refine vv_aload_n C 0 dX3_survey_75 rfl rfl ?_
            refine vv_getr (r := (d + 1)) C kc_X3 (s_X3 hY hd) 1 (by decide) rfl fk_X3_9 dX3_survey_76 ?_
            refine vv_iload_n C 1 dX3_survey_79 rfl rfl ?_
            obtain ⟨hi25, h⟩ := h
            refine vv_iald C (a_X3_heights hY hd) hi25 rfl dX3_survey_80 ?_
            refine vv_aload_n C 0 dX3_survey_81 rfl rfl ?_
            refine vv_geti C kc_X3 (s_X3 hY hd) 8 (by decide) rfl fk_X3_63 dX3_survey_82 ?_
            refine vv_join (fun k => ∀ (σ26 : vv_S), k σ26 → VJ Y X (va_Qv post (vv_B Y) X.2) 2 103 [(0, .ref (vv_q Y d)), (1, .int v21)] [] σ26) h (fun σ26 h => ?_) (fun k103_26 hJk103_26 h => ?_)
            · refine vv_aload_n C 0 dX3_survey_103 rfl rfl ?_
              refine vv_getr (r := (d + 1)) C kc_X3 (s_X3 hY hd) 1 (by decide) rfl fk_X3_9 dX3_survey_104 ?_
              refine vv_iload_n C 1 dX3_survey_107 rfl rfl ?_
              obtain ⟨hi28, h⟩ := h
              refine vv_iald C (a_X3_heights hY hd) hi28 rfl dX3_survey_108 ?_
              refine vv_join (fun k => ∀ (σ29 : vv_S), k σ29 → VJ Y X (va_Qv post (vv_B Y) X.2) 2 160 [(0, .ref (vv_q Y d)), (1, .int v21)] [] σ29) h (fun σ29 h => ?_) (fun k160_29 hJk160_29 h => ?_)
              · obtain ⟨v31, ev31⟩ : ∃ z : Int32, z = v21 + (-1 : Int32) := ⟨_, rfl⟩
                replace h := h v31 ev31
                refine vv_iinc (v := v31) (L' := [(1, .int v31), (0, .ref (vv_q Y d))]) C 1 dX3_survey_160 rfl ((kinc ki_m1).trans ev31.symm) (by decide) rfl ?_
                refine vv_goto (pc := 163) (tgt := 71) C dX3_survey_163 (by decide) ?_
                refine vv_sub [1, 0] (L' := [(0, .ref (vv_q Y d)), (1, .int v31)]) rfl ?_
                exact ih1 _ _ h
              · refine vv_if_le (pc := 109) C 160 dX3_survey_109 (by decide) (fun hc32 => ?_) (fun hc32 => ?_)
                · replace h := h.1 hc32
                  refine vv_sub [0, 1] (L' := [(0, .ref (vv_q Y d)), (1, .int v21)]) rfl ?_
                  exact hJk160_29 _ h
                · replace h := h.2 hc32
                  refine vv_aload_n C 0 dX3_survey_112 rfl rfl ?_
                  refine vv_dup C dX3_survey_113 rfl ?_
                  refine vv_geti C kc_X3 (s_X3 hY hd) 11 (by decide) rfl fk_X3_69 dX3_survey_114 ?_
                  refine vv_aload_n C 0 dX3_survey_117 rfl rfl ?_
                  refine vv_getr (r := (d + 2)) C kc_X3 (s_X3 hY hd) 2 (by decide) rfl fk_X3_15 dX3_survey_118 ?_
                  refine vv_iload_n C 1 dX3_survey_121 rfl rfl ?_
                  obtain ⟨hi33, h⟩ := h
                  refine vv_iald C (a_X3_stuffs hY hd) hi33 rfl dX3_survey_122 ?_
                  refine vv_iconst C dX3_survey_123 ki_1 ?_
                  refine vv_join (fun k => ∀ (v34 : Int32), k v34 → VJ Y X (va_Qv post (vv_B Y) X.2) 2 132 [(0, .ref (vv_q Y d)), (1, .int v21)] [.int v34, .int (σ26 d 11), .ref (vv_q Y d)] σ26) h (fun v34 h => ?_) (fun k132_34 hJk132_34 h => ?_)
                  · refine vv_iadd C dX3_survey_132 ?_
                    refine vv_puti C kc_X3 (s_X3 hY hd) 11 (by decide) rfl pf_X3_11 fk_X3_69 dX3_survey_133 (fun σ36 eσ36 => ?_)
                    replace h := h σ36 eσ36
                    refine vv_aload_n C 0 dX3_survey_136 rfl rfl ?_
                    refine vv_dup C dX3_survey_137 rfl ?_
                    refine vv_geti C kc_X3 (s_X3 hY hd) 12 (by decide) rfl fk_X3_72 dX3_survey_138 ?_
                    refine vv_aload_n C 0 dX3_survey_141 rfl rfl ?_
                    refine vv_getr (r := (d + 2)) C kc_X3 (s_X3 hY hd) 2 (by decide) rfl fk_X3_15 dX3_survey_142 ?_
                    refine vv_iload_n C 1 dX3_survey_145 rfl rfl ?_
                    obtain ⟨hi37, h⟩ := h
                    refine vv_iald C (a_X3_stuffs hY hd) hi37 rfl dX3_survey_146 ?_
                    refine vv_iconst C dX3_survey_147 ki_3 ?_
                    refine vv_join (fun k => ∀ (v38 : Int32), k v38 → VJ Y X (va_Qv post (vv_B Y) X.2) 2 156 [(0, .ref (vv_q Y d)), (1, .int v21)] [.int v38, .int (σ36 d 12), .ref (vv_q Y d)] σ36) h (fun v38 h => ?_) (fun k156_38 hJk156_38 h => ?_)
                    · refine vv_iadd C dX3_survey_156 ?_
                      refine vv_puti C kc_X3 (s_X3 hY hd) 12 (by decide) rfl pf_X3_12 fk_X3_72 dX3_survey_157 (fun σ40 eσ40 => ?_)
                      replace h := h σ40 eσ40
                      refine vv_sub [0, 1] (L' := [(0, .ref (vv_q Y d)), (1, .int v21)]) rfl ?_
                      exact hJk160_29 _ h
                    · refine vv_icmp_ne (pc := 148) C 155 dX3_survey_148 (by decide) (fun hc41 => ?_) (fun hc41 => ?_)
                      · replace h := h.1 hc41
                        refine vv_iconst C dX3_survey_155 ki_0 ?_
                        refine vv_sub [0, 1] (L' := [(0, .ref (vv_q Y d)), (1, .int v21)]) rfl ?_
                        exact hJk156_38 _ h
                      · replace h := h.2 hc41
                        refine vv_iconst C dX3_survey_151 ki_1 ?_
                        refine vv_goto (pc := 152) (tgt := 156) C dX3_survey_152 (by decide) ?_
                        refine vv_sub [0, 1] (L' := [(0, .ref (vv_q Y d)), (1, .int v21)]) rfl ?_
                        exact hJk156_38 _ h
                  · refine vv_icmp_ne (pc := 124) C 131 dX3_survey_124 (by decide) (fun hc42 => ?_) (fun hc42 => ?_)
                    · replace h := h.1 hc42
                      refine vv_iconst C dX3_survey_131 ki_0 ?_
                      refine vv_sub [0, 1] (L' := [(0, .ref (vv_q Y d)), (1, .int v21)]) rfl ?_
                      exact hJk132_34 _ h
                    · replace h := h.2 hc42
                      refine vv_iconst C dX3_survey_127 ki_1 ?_
                      refine vv_goto (pc := 128) (tgt := 132) C dX3_survey_128 (by decide) ?_
                      refine vv_sub [0, 1] (L' := [(0, .ref (vv_q Y d)), (1, .int v21)]) rfl ?_
                      exact hJk132_34 _ h
            · refine vv_icmp_gt (pc := 85) C 103 dX3_survey_85 (by decide) (fun hc43 => ?_) (fun hc43 => ?_)
              · replace h := h.1 hc43
                refine vv_sub [0, 1] (L' := [(0, .ref (vv_q Y d)), (1, .int v21)]) rfl ?_
                exact hJk103_26 _ h
              · replace h := h.2 hc43
                refine vv_aload_n C 0 dX3_survey_88 rfl rfl ?_
                refine vv_aload_n C 0 dX3_survey_89 rfl rfl ?_
                refine vv_getr (r := (d + 1)) C kc_X3 (s_X3 hY hd) 1 (by decide) rfl fk_X3_9 dX3_survey_90 ?_
                refine vv_iload_n C 1 dX3_survey_93 rfl rfl ?_
                obtain ⟨hi44, h⟩ := h
                refine vv_iald C (a_X3_heights hY hd) hi44 rfl dX3_survey_94 ?_
                refine vv_puti C kc_X3 (s_X3 hY hd) 8 (by decide) rfl pf_X3_8 fk_X3_63 dX3_survey_95 (fun σ45 eσ45 => ?_)
                replace h := h σ45 eσ45
                refine vv_aload_n C 0 dX3_survey_98 rfl rfl ?_
                refine vv_iload_n C 1 dX3_survey_99 rfl rfl ?_
                refine vv_puti C kc_X3 (s_X3 hY hd) 9 (by decide) rfl pf_X3_9 fk_X3_66 dX3_survey_100 (fun σ46 eσ46 => ?_)
                replace h := h σ46 eσ46
                refine vv_sub [0, 1] (L' := [(0, .ref (vv_q Y d)), (1, .int v21)]) rfl ?_
                exact hJk103_26 _ h
      refine vv_sub [1, 0] (L' := [(0, .ref (vv_q Y d)), (1, .int v15)]) rfl ?_
      exact hl1 n23 _ _ h
  · refine vv_icmp_ne (pc := 33) C 41 dX3_survey_33 (by decide) (fun hc47 => ?_) (fun hc47 => ?_)
    · replace h := h.1 hc47
      refine vv_bipush C dX3_survey_41 kb_9 ?_
      refine vv_sub [0] (L' := [(0, .ref (vv_q Y d))]) rfl ?_
      exact hJk43_8 _ h
    · replace h := h.2 hc47
      refine vv_bipush C dX3_survey_36 kb_8 ?_
      refine vv_goto (pc := 38) (tgt := 43) C dX3_survey_38 (by decide) ?_
      refine vv_sub [0] (L' := [(0, .ref (vv_q Y d))]) rfl ?_
      exact hJk43_8 _ h
set_option maxHeartbeats 2000000 in
set_option maxRecDepth 100000 in
theorem mX4_firstHeight {Y : vv_Y} (hY : Y.2.2.2.2 = wC) {d : Nat} (hd : is_X4 d) {a1 : Int32} {σ : vv_S} {post : Int32 → vv_S → Prop} (h : wX4_firstHeight d a1 σ post) : vv_MI Y yX4_firstHeight cX4_firstHeight 2 (some .int) 0 0 [.ref (vv_q Y d), .int a1] σ post := by
  refine vv_ofI (by decide) (Nat.le_of_ble_eq_true rfl) (fun X C => ?_)
  have C : VC Y X RX4 cX4_firstHeight 2 (some .int) 0 0 := C
  refine vv_sub [0, 1] (L' := [(0, .ref (vv_q Y d)), (1, .int a1)]) rfl ?_
  refine vv_iload_n C 1 dX4_firstHeight_0 rfl rfl ?_
  refine vv_join (fun k => ∀ (v1 : Int32), k v1 → VJ Y X (va_Qi post (vv_B Y) X.2) 2 28 [] [.int v1] σ) h (fun v1 h => ?_) (fun k28_1 hJk28_1 h => ?_)
  · exact vv_iret C dX4_firstHeight_28 h
  · refine vv_join (fun k =>  k → VJ Y X (va_Qi post (vv_B Y) X.2) 2 27 [] [] σ) h (fun h => ?_) (fun k27_2 hJk27_2 h => ?_)
    · refine vv_iconst C dX4_firstHeight_27 ki_0 ?_
      refine vv_sub [] (L' := []) rfl ?_
      exact hJk28_1 _ h
    · refine vv_if_lt (pc := 1) C 27 dX4_firstHeight_1 (by decide) (fun hc4 => ?_) (fun hc4 => ?_)
      · replace h := h.1 hc4
        refine vv_sub [] (L' := []) rfl ?_
        exact hJk27_2 h
      · replace h := h.2 hc4
        refine vv_iload_n C 1 dX4_firstHeight_4 rfl rfl ?_
        refine vv_aload_n C 0 dX4_firstHeight_5 rfl rfl ?_
        refine vv_geti C kc_X4 (s_X4 hY hd) 2 (by decide) rfl fk_X4_55 dX4_firstHeight_6 ?_
        refine vv_icmp_ge (pc := 9) C 27 dX4_firstHeight_9 (by decide) (fun hc5 => ?_) (fun hc5 => ?_)
        · replace h := h.1 hc5
          refine vv_sub [] (L' := []) rfl ?_
          exact hJk27_2 h
        · replace h := h.2 hc5
          refine vv_iload_n C 1 dX4_firstHeight_12 rfl rfl ?_
          refine vv_bipush C dX4_firstHeight_13 kb_8 ?_
          refine vv_icmp_ge (pc := 15) C 27 dX4_firstHeight_15 (by decide) (fun hc6 => ?_) (fun hc6 => ?_)
          · replace h := h.1 hc6
            refine vv_sub [] (L' := []) rfl ?_
            exact hJk27_2 h
          · replace h := h.2 hc6
            refine vv_aload_n C 0 dX4_firstHeight_18 rfl rfl ?_
            refine vv_getr (r := (d + 1)) C kc_X4 (s_X4 hY hd) 0 (by decide) rfl fk_X4_9 dX4_firstHeight_19 ?_
            refine vv_iload_n C 1 dX4_firstHeight_22 rfl rfl ?_
            obtain ⟨hi7, h⟩ := h
            refine vv_iald C (a_X4_heights hY hd) hi7 rfl dX4_firstHeight_23 ?_
            refine vv_goto (pc := 24) (tgt := 28) C dX4_firstHeight_24 (by decide) ?_
            refine vv_sub [] (L' := []) rfl ?_
            exact hJk28_1 _ h
set_option maxHeartbeats 2000000 in
set_option maxRecDepth 100000 in
theorem mX4_firstStuff {Y : vv_Y} (hY : Y.2.2.2.2 = wC) {d : Nat} (hd : is_X4 d) {a1 : Int32} {σ : vv_S} {post : Int32 → vv_S → Prop} (h : wX4_firstStuff d a1 σ post) : vv_MI Y yX4_firstStuff cX4_firstStuff 2 (some .int) 0 0 [.ref (vv_q Y d), .int a1] σ post := by
  refine vv_ofI (by decide) (Nat.le_of_ble_eq_true rfl) (fun X C => ?_)
  have C : VC Y X RX4 cX4_firstStuff 2 (some .int) 0 0 := C
  refine vv_sub [0, 1] (L' := [(0, .ref (vv_q Y d)), (1, .int a1)]) rfl ?_
  refine vv_iload_n C 1 dX4_firstStuff_0 rfl rfl ?_
  refine vv_join (fun k => ∀ (v1 : Int32), k v1 → VJ Y X (va_Qi post (vv_B Y) X.2) 2 28 [] [.int v1] σ) h (fun v1 h => ?_) (fun k28_1 hJk28_1 h => ?_)
  · exact vv_iret C dX4_firstStuff_28 h
  · refine vv_join (fun k =>  k → VJ Y X (va_Qi post (vv_B Y) X.2) 2 27 [] [] σ) h (fun h => ?_) (fun k27_2 hJk27_2 h => ?_)
    · refine vv_iconst C dX4_firstStuff_27 ki_0 ?_
      refine vv_sub [] (L' := []) rfl ?_
      exact hJk28_1 _ h
    · refine vv_if_lt (pc := 1) C 27 dX4_firstStuff_1 (by decide) (fun hc4 => ?_) (fun hc4 => ?_)
      · replace h := h.1 hc4
        refine vv_sub [] (L' := []) rfl ?_
        exact hJk27_2 h
      · replace h := h.2 hc4
        refine vv_iload_n C 1 dX4_firstStuff_4 rfl rfl ?_
        refine vv_aload_n C 0 dX4_firstStuff_5 rfl rfl ?_
        refine vv_geti C kc_X4 (s_X4 hY hd) 2 (by decide) rfl fk_X4_55 dX4_firstStuff_6 ?_
        refine vv_icmp_ge (pc := 9) C 27 dX4_firstStuff_9 (by decide) (fun hc5 => ?_) (fun hc5 => ?_)
        · replace h := h.1 hc5
          refine vv_sub [] (L' := []) rfl ?_
          exact hJk27_2 h
        · replace h := h.2 hc5
          refine vv_iload_n C 1 dX4_firstStuff_12 rfl rfl ?_
          refine vv_bipush C dX4_firstStuff_13 kb_8 ?_
          refine vv_icmp_ge (pc := 15) C 27 dX4_firstStuff_15 (by decide) (fun hc6 => ?_) (fun hc6 => ?_)
          · replace h := h.1 hc6
            refine vv_sub [] (L' := []) rfl ?_
            exact hJk27_2 h
          · replace h := h.2 hc6
            refine vv_aload_n C 0 dX4_firstStuff_18 rfl rfl ?_
            refine vv_getr (r := (d + 2)) C kc_X4 (s_X4 hY hd) 1 (by decide) rfl fk_X4_15 dX4_firstStuff_19 ?_
            refine vv_iload_n C 1 dX4_firstStuff_22 rfl rfl ?_
            obtain ⟨hi7, h⟩ := h
            refine vv_iald C (a_X4_stuffs hY hd) hi7 rfl dX4_firstStuff_23 ?_
            refine vv_goto (pc := 24) (tgt := 28) C dX4_firstStuff_24 (by decide) ?_
            refine vv_sub [] (L' := []) rfl ?_
            exact hJk28_1 _ h
set_option maxHeartbeats 2000000 in
set_option maxRecDepth 100000 in
theorem mX3_startAnew {Y : vv_Y} (hY : Y.2.2.2.2 = wC) {d : Nat} (hd : is_X3 d) {σ : vv_S} {post : vv_S → Prop} (h : wX3_startAnew d σ post) : vv_MV Y yX3_startAnew cX3_startAnew 2 none 2 42 [.ref (vv_q Y d)] σ post := by
  refine vv_ofV (by decide) (Nat.le_of_ble_eq_true rfl) (fun X C => ?_)
  have C : VC Y X RX3 cX3_startAnew 2 none 2 42 := C
  refine vv_sub [0] (L' := [(0, .ref (vv_q Y d))]) rfl ?_
  refine vv_iconst C dX3_startAnew_0 ki_0 ?_
  refine vv_istore_n (L' := [(1, .int (0 : Int32)), (0, .ref (vv_q Y d))]) C dX3_startAnew_1 rfl (by decide) rfl ?_
  refine vv_join (fun k => ∀ (σ1 : vv_S), k σ1 → VJ Y X (va_Qv post (vv_B Y) X.2) 2 49 [(0, .ref (vv_q Y d))] [] σ1) h (fun σ1 h => ?_) (fun k49_1 hJk49_1 h => ?_)
  · refine vv_aload_n C 0 dX3_startAnew_49 rfl rfl ?_
    refine vv_iconst C dX3_startAnew_50 ki_0 ?_
    refine vv_puti C kc_X3 (s_X3 hY hd) 4 (by decide) rfl pf_X3_4 fk_X3_34 dX3_startAnew_51 (fun σ3 eσ3 => ?_)
    replace h := h σ3 eσ3
    refine vv_aload_n C 0 dX3_startAnew_54 rfl rfl ?_
    refine vv_iconst C dX3_startAnew_55 ki_0 ?_
    refine vv_puti C kc_X3 (s_X3 hY hd) 5 (by decide) rfl pf_X3_5 fk_X3_38 dX3_startAnew_56 (fun σ4 eσ4 => ?_)
    replace h := h σ4 eσ4
    refine vv_aload_n C 0 dX3_startAnew_59 rfl rfl ?_
    refine vv_iconst C dX3_startAnew_60 ki_0 ?_
    refine vv_puti C kc_X3 (s_X3 hY hd) 6 (by decide) rfl pf_X3_6 fk_X3_41 dX3_startAnew_61 (fun σ5 eσ5 => ?_)
    replace h := h σ5 eσ5
    refine vv_aload_n C 0 dX3_startAnew_64 rfl rfl ?_
    refine vv_iconst C dX3_startAnew_65 ki_0 ?_
    refine vv_puti C kc_X3 (s_X3 hY hd) 7 (by decide) rfl pf_X3_7 fk_X3_44 dX3_startAnew_66 (fun σ6 eσ6 => ?_)
    replace h := h σ6 eσ6
    refine vv_aload_n C 0 dX3_startAnew_69 rfl rfl ?_
    refine vv_callV (rest := []) C yk_X3_survey vk_X3_survey lk_X3_47 kc_X3.1 (s_X3 hY hd) dX3_startAnew_70 (mX3_survey hY hd h) rfl rfl ⟨Nat.le_of_ble_eq_true rfl, Nat.le_of_ble_eq_true rfl⟩ (Nat.le_of_ble_eq_true rfl) (fun σ7 h => ?_)
    exact vv_vret C dX3_startAnew_73 h
  · obtain ⟨n10, h⟩ := h
    have hl1 : ∀ (n10 : Nat) (v8 : Int32) (σ9 : vv_S), lX3_startAnew_1 k49_1 d n10 v8 σ9 → VJ Y X (va_Qv post (vv_B Y) X.2) 2 2 [(0, .ref (vv_q Y d)), (1, .int v8)] [] σ9 := by
      clear h
      intro n10
      induction n10 with
      | zero => intro v8 σ9 h; exact False.elim h
      | succ n10 ih1 =>
        intro v8 σ9 h
        refine vv_iload_n C 1 dX3_startAnew_2 rfl rfl ?_
        refine vv_bipush C dX3_startAnew_3 kb_8 ?_
        refine vv_icmp_ge (pc := 5) C 49 dX3_startAnew_5 (by decide) (fun hc11 => ?_) (fun hc11 => ?_)
        · replace h := h.1 hc11
          refine vv_sub [0] (L' := [(0, .ref (vv_q Y d))]) rfl ?_
          exact hJk49_1 _ h
        · replace h := h.2 hc11
          refine vv_aload_n C 0 dX3_startAnew_8 rfl rfl ?_
          refine vv_getr (r := (d + 1)) C kc_X3 (s_X3 hY hd) 1 (by decide) rfl fk_X3_9 dX3_startAnew_9 ?_
          refine vv_iload_n C 1 dX3_startAnew_12 rfl rfl ?_
          refine vv_aload_n C 0 dX3_startAnew_13 rfl rfl ?_
          refine vv_getr (r := 4) C kc_X3 (s_X3 hY hd) 0 (by decide) rfl fk_X3_21 dX3_startAnew_14 ?_
          refine vv_iload_n C 1 dX3_startAnew_17 rfl rfl ?_
          refine vv_callI (rest := [.int v8, .ref (vv_q Y (d + 1))]) C yk_X4_firstHeight vk_X4_firstHeight lk_X3_25 kc_X4.1 (s_X4 hY (show is_X4 4 by decide)) dX3_startAnew_18 (mX4_firstHeight hY (show is_X4 4 by decide) h) rfl rfl ⟨Nat.le_of_ble_eq_true rfl, Nat.le_of_ble_eq_true rfl⟩ (Nat.le_of_ble_eq_true rfl) (fun r13 σ12 h => ?_)
          obtain ⟨hi14, h⟩ := h
          refine vv_iast C (a_X3_heights hY hd) hi14 rfl dX3_startAnew_21 (fun σ15 eσ15 => ?_)
          replace h := h σ15 eσ15
          refine vv_aload_n C 0 dX3_startAnew_22 rfl rfl ?_
          refine vv_getr (r := (d + 2)) C kc_X3 (s_X3 hY hd) 2 (by decide) rfl fk_X3_15 dX3_startAnew_23 ?_
          refine vv_iload_n C 1 dX3_startAnew_26 rfl rfl ?_
          refine vv_aload_n C 0 dX3_startAnew_27 rfl rfl ?_
          refine vv_getr (r := 4) C kc_X3 (s_X3 hY hd) 0 (by decide) rfl fk_X3_21 dX3_startAnew_28 ?_
          refine vv_iload_n C 1 dX3_startAnew_31 rfl rfl ?_
          refine vv_callI (rest := [.int v8, .ref (vv_q Y (d + 2))]) C yk_X4_firstStuff vk_X4_firstStuff lk_X3_31 kc_X4.1 (s_X4 hY (show is_X4 4 by decide)) dX3_startAnew_32 (mX4_firstStuff hY (show is_X4 4 by decide) h) rfl rfl ⟨Nat.le_of_ble_eq_true rfl, Nat.le_of_ble_eq_true rfl⟩ (Nat.le_of_ble_eq_true rfl) (fun r17 σ16 h => ?_)
          obtain ⟨hi18, h⟩ := h
          refine vv_iast C (a_X3_stuffs hY hd) hi18 rfl dX3_startAnew_35 (fun σ19 eσ19 => ?_)
          replace h := h σ19 eσ19
          refine vv_aload_n C 0 dX3_startAnew_36 rfl rfl ?_
          refine vv_getr (r := (d + 3)) C kc_X3 (s_X3 hY hd) 3 (by decide) rfl fk_X3_18 dX3_startAnew_37 ?_
          refine vv_iload_n C 1 dX3_startAnew_40 rfl rfl ?_
          refine vv_iconst C dX3_startAnew_41 ki_0 ?_
          obtain ⟨hi20, h⟩ := h
          refine vv_iast C (a_X3_breaches hY hd) hi20 rfl dX3_startAnew_42 (fun σ21 eσ21 => ?_)
          replace h := h σ21 eσ21
          obtain ⟨v22, ev22⟩ : ∃ z : Int32, z = v8 + (1 : Int32) := ⟨_, rfl⟩
          replace h := h v22 ev22
          refine vv_iinc (v := v22) (L' := [(1, .int v22), (0, .ref (vv_q Y d))]) C 1 dX3_startAnew_43 rfl ((kinc ki_1).trans ev22.symm) (by decide) rfl ?_
          refine vv_goto (pc := 46) (tgt := 2) C dX3_startAnew_46 (by decide) ?_
          refine vv_sub [1, 0] (L' := [(0, .ref (vv_q Y d)), (1, .int v22)]) rfl ?_
          exact ih1 _ _ h
    refine vv_sub [1, 0] (L' := [(0, .ref (vv_q Y d)), (1, .int (0 : Int32))]) rfl ?_
    exact hl1 n10 _ _ h
set_option maxHeartbeats 2000000 in
set_option maxRecDepth 100000 in
theorem mX3_canPass {Y : vv_Y} (hY : Y.2.2.2.2 = wC) {d : Nat} (hd : is_X3 d) {a1 : Int32} {σ : vv_S} {post : Int32 → vv_S → Prop} (h : wX3_canPass d a1 σ post) : vv_MI Y yX3_canPass cX3_canPass 2 (some .boolean) 0 0 [.ref (vv_q Y d), .int a1] σ post := by
  refine vv_ofI (by decide) (Nat.le_of_ble_eq_true rfl) (fun X C => ?_)
  have C : VC Y X RX3 cX3_canPass 2 (some .boolean) 0 0 := C
  refine vv_sub [0, 1] (L' := [(0, .ref (vv_q Y d)), (1, .int a1)]) rfl ?_
  refine vv_aload_n C 0 dX3_canPass_0 rfl rfl ?_
  refine vv_geti C kc_X3 (s_X3 hY hd) 5 (by decide) rfl fk_X3_38 dX3_canPass_1 ?_
  refine vv_iload_n C 1 dX3_canPass_4 rfl rfl ?_
  refine vv_iadd C dX3_canPass_5 ?_
  refine vv_sipush C dX3_canPass_6 ks_999 ?_
  refine vv_join (fun k => ∀ (v1 : Int32), k v1 → VJ Y X (va_Qi post (vv_B Y) X.2) 2 17 [] [.int v1] σ) h (fun v1 h => ?_) (fun k17_1 hJk17_1 h => ?_)
  · exact vv_zret C h.1 dX3_canPass_17 h.2
  · refine vv_icmp_gt (pc := 9) C 16 dX3_canPass_9 (by decide) (fun hc3 => ?_) (fun hc3 => ?_)
    · replace h := h.1 hc3
      refine vv_iconst C dX3_canPass_16 ki_0 ?_
      refine vv_sub [] (L' := []) rfl ?_
      exact hJk17_1 _ h
    · replace h := h.2 hc3
      refine vv_iconst C dX3_canPass_12 ki_1 ?_
      refine vv_goto (pc := 13) (tgt := 17) C dX3_canPass_13 (by decide) ?_
      refine vv_sub [] (L' := []) rfl ?_
      exact hJk17_1 _ h
set_option maxHeartbeats 2000000 in
set_option maxRecDepth 100000 in
theorem mX4_brook {Y : vv_Y} (hY : Y.2.2.2.2 = wC) {d : Nat} (hd : is_X4 d) {σ : vv_S} {post : vv_S → Prop} (h : wX4_brook d σ post) : vv_MR Y yX4_brook cX4_brook 1 (some (.object "DamOfTurf$Brook")) 0 0 [.ref (vv_q Y d)] σ (d + 3) post := by
  refine vv_ofR (by decide) (Nat.le_of_ble_eq_true rfl) (fun X C => ?_)
  have C : VC Y X RX4 cX4_brook 1 (some (.object "DamOfTurf$Brook")) 0 0 := C
  refine vv_sub [0] (L' := [(0, .ref (vv_q Y d))]) rfl ?_
  refine vv_aload_n C 0 dX4_brook_0 rfl rfl ?_
  refine vv_getr (r := (d + 3)) C kc_X4 (s_X4 hY hd) 7 (by decide) rfl fk_X4_21 dX4_brook_1 ?_
  exact vv_aret C dX4_brook_4 h
set_option maxHeartbeats 2000000 in
set_option maxRecDepth 100000 in
theorem mX1_comesIn {Y : vv_Y} (hY : Y.2.2.2.2 = wC) {d : Nat} (hd : is_X1 d) {a1 : Int32} {σ : vv_S} {post : Int32 → vv_S → Prop} (h : wX1_comesIn d a1 σ post) : vv_MI Y yX1_comesIn cX1_comesIn 2 (some .int) 1 14 [.ref (vv_q Y d), .int a1] σ post := by
  refine vv_ofI (by decide) (Nat.le_of_ble_eq_true rfl) (fun X C => ?_)
  have C : VC Y X RX1 cX1_comesIn 2 (some .int) 1 14 := C
  refine vv_sub [0, 1] (L' := [(0, .ref (vv_q Y d)), (1, .int a1)]) rfl ?_
  refine vv_iload_n C 1 dX1_comesIn_0 rfl rfl ?_
  refine vv_join (fun k => ∀ (v1 : Int32), k v1 → VJ Y X (va_Qi post (vv_B Y) X.2) 2 19 [] [.int v1] σ) h (fun v1 h => ?_) (fun k19_1 hJk19_1 h => ?_)
  · exact vv_iret C dX1_comesIn_19 h
  · refine vv_if_ge (pc := 1) C 8 dX1_comesIn_1 (by decide) (fun hc3 => ?_) (fun hc3 => ?_)
    · replace h := h.1 hc3
      refine vv_aload_n C 0 dX1_comesIn_8 rfl rfl ?_
      refine vv_getr (r := (d + 6)) C kc_X1 (s_X1 hY hd) 7 (by decide) rfl fk_X1_27 dX1_comesIn_9 ?_
      refine vv_iload_n C 1 dX1_comesIn_12 rfl rfl ?_
      refine vv_bipush C dX1_comesIn_13 kb_100 ?_
      refine vv_min C lk_X1_44 mk_min (by decide) (Nat.le_of_ble_eq_true rfl) dX1_comesIn_15 ?_
      obtain ⟨hi4, h⟩ := h
      refine vv_iald C (a_X1_byMinute hY hd) hi4 rfl dX1_comesIn_18 ?_
      refine vv_sub [] (L' := []) rfl ?_
      exact hJk19_1 _ h
    · replace h := h.2 hc3
      refine vv_iconst C dX1_comesIn_4 ki_0 ?_
      refine vv_goto (pc := 5) (tgt := 19) C dX1_comesIn_5 (by decide) ?_
      refine vv_sub [] (L' := []) rfl ?_
      exact hJk19_1 _ h
set_option maxHeartbeats 2000000 in
set_option maxRecDepth 100000 in
theorem mX3_wears {Y : vv_Y} (hY : Y.2.2.2.2 = wC) {d : Nat} (hd : is_X3 d) {a1 : Int32} {σ : vv_S} {post : Int32 → vv_S → Prop} (h : wX3_wears d a1 σ post) : vv_MI Y yX3_wears cX3_wears 3 (some .boolean) 1 15 [.ref (vv_q Y d), .int a1] σ post := by
  refine vv_ofI (by decide) (Nat.le_of_ble_eq_true rfl) (fun X C => ?_)
  have C : VC Y X RX3 cX3_wears 3 (some .boolean) 1 15 := C
  refine vv_sub [0, 1] (L' := [(0, .ref (vv_q Y d)), (1, .int a1)]) rfl ?_
  refine vv_iload_n C 1 dX3_wears_0 rfl rfl ?_
  refine vv_join (fun k =>  k → VJ Y X (va_Qi post (vv_B Y) X.2) 3 19 [] [] σ) h (fun h => ?_) (fun k19_0 hJk19_0 h => ?_)
  · refine vv_iconst C dX3_wears_19 ki_0 ?_
    exact vv_zret C (Or.inl rfl) dX3_wears_20 h
  · refine vv_if_lt (pc := 1) C 19 dX3_wears_1 (by decide) (fun hc2 => ?_) (fun hc2 => ?_)
    · replace h := h.1 hc2
      refine vv_sub [] (L' := []) rfl ?_
      exact hJk19_0 h
    · replace h := h.2 hc2
      refine vv_iload_n C 1 dX3_wears_4 rfl rfl ?_
      refine vv_bipush C dX3_wears_5 kb_8 ?_
      refine vv_icmp_ge (pc := 7) C 19 dX3_wears_7 (by decide) (fun hc3 => ?_) (fun hc3 => ?_)
      · replace h := h.1 hc3
        refine vv_sub [] (L' := []) rfl ?_
        exact hJk19_0 h
      · replace h := h.2 hc3
        refine vv_aload_n C 0 dX3_wears_10 rfl rfl ?_
        refine vv_getr (r := (d + 1)) C kc_X3 (s_X3 hY hd) 1 (by decide) rfl fk_X3_9 dX3_wears_11 ?_
        refine vv_iload_n C 1 dX3_wears_14 rfl rfl ?_
        obtain ⟨hi4, h⟩ := h
        refine vv_iald C (a_X3_heights hY hd) hi4 rfl dX3_wears_15 ?_
        refine vv_if_ne (pc := 16) C 21 dX3_wears_16 (by decide) (fun hc5 => ?_) (fun hc5 => ?_)
        · replace h := h.1 hc5
          refine vv_aload_n C 0 dX3_wears_21 rfl rfl ?_
          refine vv_getr (r := (d + 2)) C kc_X3 (s_X3 hY hd) 2 (by decide) rfl fk_X3_15 dX3_wears_22 ?_
          refine vv_iload_n C 1 dX3_wears_25 rfl rfl ?_
          obtain ⟨hi6, h⟩ := h
          refine vv_iald C (a_X3_stuffs hY hd) hi6 rfl dX3_wears_26 ?_
          refine vv_join (fun k => ∀ (v7 : Int32), k v7 → VJ Y X (va_Qi post (vv_B Y) X.2) 3 58 [(0, .ref (vv_q Y d)), (1, .int a1)] [.int v7] σ) h (fun v7 h => ?_) (fun k58_7 hJk58_7 h => ?_)
          · refine vv_istore_n (L' := [(2, .int v7), (0, .ref (vv_q Y d)), (1, .int a1)]) C dX3_wears_58 rfl (by decide) rfl ?_
            refine vv_aload_n C 1 dX3_wears_59 rfl rfl ?_
            refine vv_getr (r := (d + 1)) C kc_X3 (s_X3 hY hd) 1 (by decide) rfl fk_X3_9 dX3_wears_60 ?_
            refine vv_iload_n C 2 dX3_wears_63 rfl rfl ?_
            refine vv_iconst C dX3_wears_64 ki_0 ?_
            refine vv_aload_n C 1 dX3_wears_65 rfl rfl ?_
            refine vv_getr (r := (d + 1)) C kc_X3 (s_X3 hY hd) 1 (by decide) rfl fk_X3_9 dX3_wears_66 ?_
            refine vv_iload_n C 2 dX3_wears_69 rfl rfl ?_
            obtain ⟨hi9, h⟩ := h
            refine vv_iald C (a_X3_heights hY hd) hi9 rfl dX3_wears_70 ?_
            refine vv_iload_n C 0 dX3_wears_71 rfl rfl ?_
            refine vv_isub C dX3_wears_72 ?_
            refine vv_max C lk_X3_96 mk_max (by decide) (Nat.le_of_ble_eq_true rfl) dX3_wears_73 ?_
            obtain ⟨hi10, h⟩ := h
            refine vv_iast C (a_X3_heights hY hd) hi10 rfl dX3_wears_76 (fun σ11 eσ11 => ?_)
            replace h := h σ11 eσ11
            refine vv_aload_n C 1 dX3_wears_77 rfl rfl ?_
            refine vv_getr (r := (d + 1)) C kc_X3 (s_X3 hY hd) 1 (by decide) rfl fk_X3_9 dX3_wears_78 ?_
            refine vv_iload_n C 2 dX3_wears_81 rfl rfl ?_
            obtain ⟨hi12, h⟩ := h
            refine vv_iald C (a_X3_heights hY hd) hi12 rfl dX3_wears_82 ?_
            refine vv_join (fun k => ∀ (σ13 : vv_S), k σ13 → VJ Y X (va_Qi post (vv_B Y) X.2) 3 101 [(2, .int v7)] [] σ13) h (fun σ13 h => ?_) (fun k101_13 hJk101_13 h => ?_)
            · refine vv_iload_n C 0 dX3_wears_101 rfl rfl ?_
              refine vv_join (fun k => ∀ (v15 : Int32), k v15 → VJ Y X (va_Qi post (vv_B Y) X.2) 3 110 [] [.int v15] σ13) h (fun v15 h => ?_) (fun k110_15 hJk110_15 h => ?_)
              · exact vv_zret C h.1 dX3_wears_110 h.2
              · refine vv_if_le (pc := 102) C 109 dX3_wears_102 (by decide) (fun hc17 => ?_) (fun hc17 => ?_)
                · replace h := h.1 hc17
                  refine vv_iconst C dX3_wears_109 ki_0 ?_
                  refine vv_sub [] (L' := []) rfl ?_
                  exact hJk110_15 _ h
                · replace h := h.2 hc17
                  refine vv_iconst C dX3_wears_105 ki_1 ?_
                  refine vv_goto (pc := 106) (tgt := 110) C dX3_wears_106 (by decide) ?_
                  refine vv_sub [] (L' := []) rfl ?_
                  exact hJk110_15 _ h
            · refine vv_if_ne (pc := 83) C 101 dX3_wears_83 (by decide) (fun hc18 => ?_) (fun hc18 => ?_)
              · replace h := h.1 hc18
                refine vv_sub [0] (L' := [(2, .int v7)]) rfl ?_
                exact hJk101_13 _ h
              · replace h := h.2 hc18
                refine vv_aload_n C 1 dX3_wears_86 rfl rfl ?_
                refine vv_getr (r := (d + 3)) C kc_X3 (s_X3 hY hd) 3 (by decide) rfl fk_X3_18 dX3_wears_87 ?_
                refine vv_iload_n C 2 dX3_wears_90 rfl rfl ?_
                refine vv_dup2 C dX3_wears_91 rfl rfl ?_
                obtain ⟨hi19, h⟩ := h
                refine vv_iald C (a_X3_breaches hY hd) hi19 rfl dX3_wears_92 ?_
                refine vv_iconst C dX3_wears_93 ki_1 ?_
                refine vv_iadd C dX3_wears_94 ?_
                obtain ⟨hi20, h⟩ := h
                refine vv_iast C (a_X3_breaches hY hd) hi20 rfl dX3_wears_95 (fun σ21 eσ21 => ?_)
                replace h := h σ21 eσ21
                refine vv_aload_n C 1 dX3_wears_96 rfl rfl ?_
                refine vv_iload_n C 2 dX3_wears_97 rfl rfl ?_
                refine vv_puti C kc_X3 (s_X3 hY hd) 15 (by decide) rfl pf_X3_15 fk_X3_105 dX3_wears_98 (fun σ22 eσ22 => ?_)
                replace h := h σ22 eσ22
                refine vv_sub [0] (L' := [(2, .int v7)]) rfl ?_
                exact hJk101_13 _ h
          · refine vv_if_ne (pc := 27) C 34 dX3_wears_27 (by decide) (fun hc23 => ?_) (fun hc23 => ?_)
            · replace h := h.1 hc23
              refine vv_aload_n C 0 dX3_wears_34 rfl rfl ?_
              refine vv_getr (r := (d + 2)) C kc_X3 (s_X3 hY hd) 2 (by decide) rfl fk_X3_15 dX3_wears_35 ?_
              refine vv_iload_n C 1 dX3_wears_38 rfl rfl ?_
              obtain ⟨hi24, h⟩ := h
              refine vv_iald C (a_X3_stuffs hY hd) hi24 rfl dX3_wears_39 ?_
              refine vv_iconst C dX3_wears_40 ki_1 ?_
              refine vv_join (fun k =>  k → VJ Y X (va_Qi post (vv_B Y) X.2) 3 57 [(0, .ref (vv_q Y d)), (1, .int a1)] [] σ) h (fun h => ?_) (fun k57_24 hJk57_24 h => ?_)
              · refine vv_iconst C dX3_wears_57 ki_0 ?_
                refine vv_sub [0, 1] (L' := [(0, .ref (vv_q Y d)), (1, .int a1)]) rfl ?_
                exact hJk58_7 _ h
              · refine vv_icmp_ne (pc := 41) C 57 dX3_wears_41 (by decide) (fun hc26 => ?_) (fun hc26 => ?_)
                · replace h := h.1 hc26
                  refine vv_sub [0, 1] (L' := [(0, .ref (vv_q Y d)), (1, .int a1)]) rfl ?_
                  exact hJk57_24 h
                · replace h := h.2 hc26
                  refine vv_aload_n C 0 dX3_wears_44 rfl rfl ?_
                  refine vv_geti C kc_X3 (s_X3 hY hd) 5 (by decide) rfl fk_X3_38 dX3_wears_45 ?_
                  refine vv_iconst C dX3_wears_48 ki_2 ?_
                  refine vv_irem C dX3_wears_49 (by decide) ?_
                  refine vv_if_ne (pc := 50) C 57 dX3_wears_50 (by decide) (fun hc27 => ?_) (fun hc27 => ?_)
                  · replace h := h.1 hc27
                    refine vv_sub [0, 1] (L' := [(0, .ref (vv_q Y d)), (1, .int a1)]) rfl ?_
                    exact hJk57_24 h
                  · replace h := h.2 hc27
                    refine vv_iconst C dX3_wears_53 ki_1 ?_
                    refine vv_goto (pc := 54) (tgt := 58) C dX3_wears_54 (by decide) ?_
                    refine vv_sub [0, 1] (L' := [(0, .ref (vv_q Y d)), (1, .int a1)]) rfl ?_
                    exact hJk58_7 _ h
            · replace h := h.2 hc23
              refine vv_iconst C dX3_wears_30 ki_2 ?_
              refine vv_goto (pc := 31) (tgt := 58) C dX3_wears_31 (by decide) ?_
              refine vv_sub [0, 1] (L' := [(0, .ref (vv_q Y d)), (1, .int a1)]) rfl ?_
              exact hJk58_7 _ h
        · replace h := h.2 hc5
          refine vv_sub [] (L' := []) rfl ?_
          exact hJk19_0 h
set_option maxHeartbeats 2000000 in
set_option maxRecDepth 100000 in
theorem mX4_levelOf {Y : vv_Y} (hY : Y.2.2.2.2 = wC) {d : Nat} (hd : is_X4 d) {a1 : Int32} {σ : vv_S} {post : Int32 → vv_S → Prop} (h : wX4_levelOf d a1 σ post) : vv_MI Y yX4_levelOf cX4_levelOf 5 (some .int) 1 21 [.ref (vv_q Y d), .int a1] σ post := by
  refine vv_ofI (by decide) (Nat.le_of_ble_eq_true rfl) (fun X C => ?_)
  have C : VC Y X RX4 cX4_levelOf 5 (some .int) 1 21 := C
  refine vv_sub [0, 1] (L' := [(0, .ref (vv_q Y d)), (1, .int a1)]) rfl ?_
  refine vv_iconst C dX4_levelOf_0 ki_0 ?_
  refine vv_istore_n (L' := [(2, .int (0 : Int32)), (0, .ref (vv_q Y d)), (1, .int a1)]) C dX4_levelOf_1 rfl (by decide) rfl ?_
  refine vv_bipush C dX4_levelOf_2 kb_32 ?_
  refine vv_istore_n (L' := [(3, .int (32 : Int32)), (2, .int (0 : Int32)), (0, .ref (vv_q Y d)), (1, .int a1)]) C dX4_levelOf_4 rfl (by decide) rfl ?_
  obtain ⟨n4, h⟩ := h
  have hl1 : ∀ (n4 : Nat) (v1 : Int32) (v2 : Int32) (σ3 : vv_S), lX4_levelOf_1 post d a1 n4 v1 v2 σ3 → VJ Y X (va_Qi post (vv_B Y) X.2) 5 5 [(0, .ref (vv_q Y d)), (1, .int a1), (2, .int v1), (3, .int v2)] [] σ3 := by
    clear h
    intro n4
    induction n4 with
    | zero => intro v1 v2 σ3 h; exact False.elim h
    | succ n4 ih1 =>
      intro v1 v2 σ3 h
      refine vv_iload_n C 3 dX4_levelOf_5 rfl rfl ?_
      refine vv_if_le (pc := 6) C 41 dX4_levelOf_6 (by decide) (fun hc5 => ?_) (fun hc5 => ?_)
      · replace h := h.1 hc5
        refine vv_iload_n C 2 dX4_levelOf_41 rfl rfl ?_
        exact vv_iret C dX4_levelOf_42 h
      · replace h := h.2 hc5
        refine vv_iload_n C 2 dX4_levelOf_9 rfl rfl ?_
        refine vv_iload_n C 3 dX4_levelOf_10 rfl rfl ?_
        refine vv_iadd C dX4_levelOf_11 ?_
        refine vv_nm (fun v6 ev6 => ?_)
        replace h := h v6 ev6
        refine vv_istore (L' := [(4, .int v6), (0, .ref (vv_q Y d)), (1, .int a1), (2, .int v1), (3, .int v2)]) C dX4_levelOf_12 (by decide) rfl ?_
        refine vv_iload C 0 dX4_levelOf_14 rfl ?_
        refine vv_bipush C dX4_levelOf_16 kb_60 ?_
        refine vv_join (fun k => ∀ (v7 : Int32) (σ8 : vv_S), k v7 σ8 → VJ Y X (va_Qi post (vv_B Y) X.2) 5 34 [(0, .ref (vv_q Y d)), (1, .int a1), (2, .int v7), (3, .int v2)] [] σ8) h (fun v7 σ8 h => ?_) (fun k34_8 hJk34_8 h => ?_)
        · refine vv_iload_n C 3 dX4_levelOf_34 rfl rfl ?_
          refine vv_iconst C dX4_levelOf_35 ki_2 ?_
          refine vv_idiv C dX4_levelOf_36 (by decide) ?_
          refine vv_nm (fun v10 ev10 => ?_)
          replace h := h v10 ev10
          refine vv_istore_n (L' := [(3, .int v10), (0, .ref (vv_q Y d)), (1, .int a1), (2, .int v7)]) C dX4_levelOf_37 rfl (by decide) rfl ?_
          refine vv_goto (pc := 38) (tgt := 5) C dX4_levelOf_38 (by decide) ?_
          refine vv_sub [1, 2, 3, 0] (L' := [(0, .ref (vv_q Y d)), (1, .int a1), (2, .int v7), (3, .int v10)]) rfl ?_
          exact ih1 _ _ _ h
        · refine vv_icmp_gt (pc := 18) C 34 dX4_levelOf_18 (by decide) (fun hc11 => ?_) (fun hc11 => ?_)
          · replace h := h.1 hc11
            refine vv_sub [1, 2, 3, 4] (L' := [(0, .ref (vv_q Y d)), (1, .int a1), (2, .int v1), (3, .int v2)]) rfl ?_
            exact hJk34_8 _ _ h
          · replace h := h.2 hc11
            refine vv_aload_n C 1 dX4_levelOf_21 rfl rfl ?_
            refine vv_iload C 0 dX4_levelOf_22 rfl ?_
            refine vv_callI (rest := []) C yk_X4_takes vk_X4_takes lk_X4_110 kc_X4.1 (s_X4 hY hd) dX4_levelOf_24 (mX4_takes hY hd h) rfl rfl ⟨Nat.le_of_ble_eq_true rfl, Nat.le_of_ble_eq_true rfl⟩ (Nat.le_of_ble_eq_true rfl) (fun r13 σ12 h => ?_)
            refine vv_iload_n C 2 dX4_levelOf_27 rfl rfl ?_
            refine vv_icmp_gt (pc := 28) C 34 dX4_levelOf_28 (by decide) (fun hc14 => ?_) (fun hc14 => ?_)
            · replace h := h.1 hc14
              refine vv_sub [1, 2, 3, 4] (L' := [(0, .ref (vv_q Y d)), (1, .int a1), (2, .int v1), (3, .int v2)]) rfl ?_
              exact hJk34_8 _ _ h
            · replace h := h.2 hc14
              refine vv_iload C 0 dX4_levelOf_31 rfl ?_
              refine vv_istore_n (L' := [(2, .int v6), (4, .int v6), (0, .ref (vv_q Y d)), (1, .int a1), (3, .int v2)]) C dX4_levelOf_33 rfl (by decide) rfl ?_
              refine vv_sub [2, 3, 0, 4] (L' := [(0, .ref (vv_q Y d)), (1, .int a1), (2, .int v6), (3, .int v2)]) rfl ?_
              exact hJk34_8 _ _ h
  refine vv_sub [2, 3, 1, 0] (L' := [(0, .ref (vv_q Y d)), (1, .int a1), (2, .int (0 : Int32)), (3, .int (32 : Int32))]) rfl ?_
  exact hl1 n4 _ _ _ h
set_option maxHeartbeats 2000000 in
set_option maxRecDepth 100000 in
theorem mX3_oneMinute {Y : vv_Y} (hY : Y.2.2.2.2 = wC) {d : Nat} (hd : is_X3 d) {a1 : Int32} {σ : vv_S} {post : vv_S → Prop} (h : wX3_oneMinute d a1 σ post) : vv_MV Y yX3_oneMinute cX3_oneMinute 4 none 2 45 [.ref (vv_q Y d), .int a1] σ post := by
  refine vv_ofV (by decide) (Nat.le_of_ble_eq_true rfl) (fun X C => ?_)
  have C : VC Y X RX3 cX3_oneMinute 4 none 2 45 := C
  refine vv_sub [0, 1] (L' := [(0, .ref (vv_q Y d)), (1, .int a1)]) rfl ?_
  refine vv_aload_n C 0 dX3_oneMinute_0 rfl rfl ?_
  refine vv_dup C dX3_oneMinute_1 rfl ?_
  refine vv_geti C kc_X3 (s_X3 hY hd) 5 (by decide) rfl fk_X3_38 dX3_oneMinute_2 ?_
  refine vv_iconst C dX3_oneMinute_5 ki_1 ?_
  refine vv_iadd C dX3_oneMinute_6 ?_
  refine vv_puti C kc_X3 (s_X3 hY hd) 5 (by decide) rfl pf_X3_5 fk_X3_38 dX3_oneMinute_7 (fun σ1 eσ1 => ?_)
  replace h := h σ1 eσ1
  refine vv_aload_n C 0 dX3_oneMinute_10 rfl rfl ?_
  refine vv_dup C dX3_oneMinute_11 rfl ?_
  refine vv_geti C kc_X3 (s_X3 hY hd) 4 (by decide) rfl fk_X3_34 dX3_oneMinute_12 ?_
  refine vv_aload_n C 0 dX3_oneMinute_15 rfl rfl ?_
  refine vv_getr (r := 4) C kc_X3 (s_X3 hY hd) 0 (by decide) rfl fk_X3_21 dX3_oneMinute_16 ?_
  refine vv_callR (r := 7) (rest := [.int (σ1 d 4), .ref (vv_q Y d)]) C yk_X4_brook vk_X4_brook lk_X3_84 kc_X4.1 (s_X4 hY (show is_X4 4 by decide)) dX3_oneMinute_19 (mX4_brook hY (show is_X4 4 by decide) h) rfl rfl ⟨Nat.le_of_ble_eq_true rfl, Nat.le_of_ble_eq_true rfl⟩ (Nat.le_of_ble_eq_true rfl) (fun σ2 h => ?_)
  refine vv_aload_n C 0 dX3_oneMinute_22 rfl rfl ?_
  refine vv_geti C kc_X3 (s_X3 hY hd) 5 (by decide) rfl fk_X3_38 dX3_oneMinute_23 ?_
  refine vv_callI (rest := [.int (σ1 d 4), .ref (vv_q Y d)]) C yk_X1_comesIn vk_X1_comesIn lk_X3_88 kc_X1.1 (s_X1 hY (show is_X1 7 by decide)) dX3_oneMinute_26 (mX1_comesIn hY (show is_X1 7 by decide) h) rfl rfl ⟨Nat.le_of_ble_eq_true rfl, Nat.le_of_ble_eq_true rfl⟩ (Nat.le_of_ble_eq_true rfl) (fun r4 σ3 h => ?_)
  refine vv_iload_n C 1 dX3_oneMinute_29 rfl rfl ?_
  refine vv_iadd C dX3_oneMinute_30 ?_
  refine vv_iadd C dX3_oneMinute_31 ?_
  refine vv_puti C kc_X3 (s_X3 hY hd) 4 (by decide) rfl pf_X3_4 fk_X3_34 dX3_oneMinute_32 (fun σ5 eσ5 => ?_)
  replace h := h σ5 eσ5
  refine vv_aload_n C 0 dX3_oneMinute_35 rfl rfl ?_
  refine vv_geti C kc_X3 (s_X3 hY hd) 11 (by decide) rfl fk_X3_69 dX3_oneMinute_36 ?_
  refine vv_aload_n C 0 dX3_oneMinute_39 rfl rfl ?_
  refine vv_geti C kc_X3 (s_X3 hY hd) 12 (by decide) rfl fk_X3_72 dX3_oneMinute_40 ?_
  refine vv_iadd C dX3_oneMinute_43 ?_
  refine vv_join (fun k => ∀ (σ6 : vv_S), k σ6 → VJ Y X (va_Qv post (vv_B Y) X.2) 4 105 [(0, .ref (vv_q Y d))] [] σ6) h (fun σ6 h => ?_) (fun k105_6 hJk105_6 h => ?_)
  · refine vv_aload_n C 0 dX3_oneMinute_105 rfl rfl ?_
    refine vv_iconst C dX3_oneMinute_106 ki_0 ?_
    refine vv_aload_n C 0 dX3_oneMinute_107 rfl rfl ?_
    refine vv_geti C kc_X3 (s_X3 hY hd) 4 (by decide) rfl fk_X3_34 dX3_oneMinute_108 ?_
    refine vv_aload_n C 0 dX3_oneMinute_111 rfl rfl ?_
    refine vv_geti C kc_X3 (s_X3 hY hd) 10 (by decide) rfl fk_X3_81 dX3_oneMinute_112 ?_
    refine vv_isub C dX3_oneMinute_115 ?_
    refine vv_max C lk_X3_96 mk_max (by decide) (Nat.le_of_ble_eq_true rfl) dX3_oneMinute_116 ?_
    refine vv_puti C kc_X3 (s_X3 hY hd) 13 (by decide) rfl pf_X3_13 fk_X3_99 dX3_oneMinute_119 (fun σ8 eσ8 => ?_)
    replace h := h σ8 eσ8
    refine vv_aload_n C 0 dX3_oneMinute_122 rfl rfl ?_
    refine vv_aload_n C 0 dX3_oneMinute_123 rfl rfl ?_
    refine vv_geti C kc_X3 (s_X3 hY hd) 9 (by decide) rfl fk_X3_66 dX3_oneMinute_124 ?_
    refine vv_puti C kc_X3 (s_X3 hY hd) 14 (by decide) rfl pf_X3_14 fk_X3_102 dX3_oneMinute_127 (fun σ9 eσ9 => ?_)
    replace h := h σ9 eσ9
    refine vv_aload_n C 0 dX3_oneMinute_130 rfl rfl ?_
    refine vv_dup C dX3_oneMinute_131 rfl ?_
    refine vv_geti C kc_X3 (s_X3 hY hd) 4 (by decide) rfl fk_X3_34 dX3_oneMinute_132 ?_
    refine vv_aload_n C 0 dX3_oneMinute_135 rfl rfl ?_
    refine vv_geti C kc_X3 (s_X3 hY hd) 13 (by decide) rfl fk_X3_99 dX3_oneMinute_136 ?_
    refine vv_isub C dX3_oneMinute_139 ?_
    refine vv_puti C kc_X3 (s_X3 hY hd) 4 (by decide) rfl pf_X3_4 fk_X3_34 dX3_oneMinute_140 (fun σ10 eσ10 => ?_)
    replace h := h σ10 eσ10
    refine vv_aload_n C 0 dX3_oneMinute_143 rfl rfl ?_
    refine vv_dup C dX3_oneMinute_144 rfl ?_
    refine vv_geti C kc_X3 (s_X3 hY hd) 6 (by decide) rfl fk_X3_41 dX3_oneMinute_145 ?_
    refine vv_aload_n C 0 dX3_oneMinute_148 rfl rfl ?_
    refine vv_geti C kc_X3 (s_X3 hY hd) 13 (by decide) rfl fk_X3_99 dX3_oneMinute_149 ?_
    refine vv_iadd C dX3_oneMinute_152 ?_
    refine vv_puti C kc_X3 (s_X3 hY hd) 6 (by decide) rfl pf_X3_6 fk_X3_41 dX3_oneMinute_153 (fun σ11 eσ11 => ?_)
    replace h := h σ11 eσ11
    refine vv_aload_n C 0 dX3_oneMinute_156 rfl rfl ?_
    refine vv_bipush C dX3_oneMinute_157 kb_m4 ?_
    refine vv_puti C kc_X3 (s_X3 hY hd) 15 (by decide) rfl pf_X3_15 fk_X3_105 dX3_oneMinute_159 (fun σ12 eσ12 => ?_)
    replace h := h σ12 eσ12
    refine vv_aload_n C 0 dX3_oneMinute_162 rfl rfl ?_
    refine vv_geti C kc_X3 (s_X3 hY hd) 13 (by decide) rfl fk_X3_99 dX3_oneMinute_163 ?_
    refine vv_join (fun k => ∀ (σ13 : vv_S), k σ13 → VJ Y X (va_Qv post (vv_B Y) X.2) 4 184 [] [] σ13) h (fun σ13 h => ?_) (fun k184_13 hJk184_13 h => ?_)
    · exact vv_vret C dX3_oneMinute_184 h
    · refine vv_if_le (pc := 166) C 184 dX3_oneMinute_166 (by decide) (fun hc15 => ?_) (fun hc15 => ?_)
      · replace h := h.1 hc15
        refine vv_sub [] (L' := []) rfl ?_
        exact hJk184_13 _ h
      · replace h := h.2 hc15
        refine vv_aload_n C 0 dX3_oneMinute_169 rfl rfl ?_
        refine vv_aload_n C 0 dX3_oneMinute_170 rfl rfl ?_
        refine vv_geti C kc_X3 (s_X3 hY hd) 14 (by decide) rfl fk_X3_102 dX3_oneMinute_171 ?_
        refine vv_callI (rest := []) C yk_X3_wears vk_X3_wears lk_X3_108 kc_X3.1 (s_X3 hY hd) dX3_oneMinute_174 (mX3_wears hY hd h) rfl rfl ⟨Nat.le_of_ble_eq_true rfl, Nat.le_of_ble_eq_true rfl⟩ (Nat.le_of_ble_eq_true rfl) (fun r17 σ16 h => ?_)
        refine vv_if_eq (pc := 177) C 184 dX3_oneMinute_177 (by decide) (fun hc18 => ?_) (fun hc18 => ?_)
        · replace h := h.1 hc18
          refine vv_sub [] (L' := []) rfl ?_
          exact hJk184_13 _ h
        · replace h := h.2 hc18
          refine vv_aload_n C 0 dX3_oneMinute_180 rfl rfl ?_
          refine vv_callV (rest := []) C yk_X3_survey vk_X3_survey lk_X3_47 kc_X3.1 (s_X3 hY hd) dX3_oneMinute_181 (mX3_survey hY hd h) rfl rfl ⟨Nat.le_of_ble_eq_true rfl, Nat.le_of_ble_eq_true rfl⟩ (Nat.le_of_ble_eq_true rfl) (fun σ19 h => ?_)
          refine vv_sub [] (L' := []) rfl ?_
          exact hJk184_13 _ h
  · refine vv_if_le (pc := 44) C 105 dX3_oneMinute_44 (by decide) (fun hc20 => ?_) (fun hc20 => ?_)
    · replace h := h.1 hc20
      refine vv_sub [0] (L' := [(0, .ref (vv_q Y d))]) rfl ?_
      exact hJk105_6 _ h
    · replace h := h.2 hc20
      refine vv_aload_n C 0 dX3_oneMinute_47 rfl rfl ?_
      refine vv_getr (r := 4) C kc_X3 (s_X3 hY hd) 0 (by decide) rfl fk_X3_21 dX3_oneMinute_48 ?_
      refine vv_aload_n C 0 dX3_oneMinute_51 rfl rfl ?_
      refine vv_geti C kc_X3 (s_X3 hY hd) 4 (by decide) rfl fk_X3_34 dX3_oneMinute_52 ?_
      refine vv_callI (rest := []) C yk_X4_levelOf vk_X4_levelOf lk_X3_93 kc_X4.1 (s_X4 hY (show is_X4 4 by decide)) dX3_oneMinute_55 (mX4_levelOf hY (show is_X4 4 by decide) h) rfl rfl ⟨Nat.le_of_ble_eq_true rfl, Nat.le_of_ble_eq_true rfl⟩ (Nat.le_of_ble_eq_true rfl) (fun r22 σ21 h => ?_)
      refine vv_istore_n (L' := [(2, .int r22), (0, .ref (vv_q Y d)), (1, .int a1)]) C dX3_oneMinute_58 rfl (by decide) rfl ?_
      refine vv_aload_n C 1 dX3_oneMinute_59 rfl rfl ?_
      refine vv_geti C kc_X3 (s_X3 hY hd) 4 (by decide) rfl fk_X3_34 dX3_oneMinute_60 ?_
      refine vv_aload_n C 1 dX3_oneMinute_63 rfl rfl ?_
      refine vv_geti C kc_X3 (s_X3 hY hd) 11 (by decide) rfl fk_X3_69 dX3_oneMinute_64 ?_
      refine vv_iload_n C 0 dX3_oneMinute_67 rfl rfl ?_
      refine vv_bipush C dX3_oneMinute_68 kb_8 ?_
      refine vv_idiv C dX3_oneMinute_70 (by decide) ?_
      refine vv_imul C dX3_oneMinute_71 ?_
      refine vv_aload_n C 1 dX3_oneMinute_72 rfl rfl ?_
      refine vv_geti C kc_X3 (s_X3 hY hd) 12 (by decide) rfl fk_X3_72 dX3_oneMinute_73 ?_
      refine vv_iload_n C 0 dX3_oneMinute_76 rfl rfl ?_
      refine vv_iconst C dX3_oneMinute_77 ki_3 ?_
      refine vv_idiv C dX3_oneMinute_78 (by decide) ?_
      refine vv_imul C dX3_oneMinute_79 ?_
      refine vv_iadd C dX3_oneMinute_80 ?_
      refine vv_min C lk_X3_57 mk_min (by decide) (Nat.le_of_ble_eq_true rfl) dX3_oneMinute_81 ?_
      refine vv_nm (fun v23 ev23 => ?_)
      replace h := h v23 ev23
      refine vv_istore_n (L' := [(3, .int v23), (2, .int r22), (0, .ref (vv_q Y d)), (1, .int a1)]) C dX3_oneMinute_84 rfl (by decide) rfl ?_
      refine vv_aload_n C 2 dX3_oneMinute_85 rfl rfl ?_
      refine vv_dup C dX3_oneMinute_86 rfl ?_
      refine vv_geti C kc_X3 (s_X3 hY hd) 4 (by decide) rfl fk_X3_34 dX3_oneMinute_87 ?_
      refine vv_iload_n C 0 dX3_oneMinute_90 rfl rfl ?_
      refine vv_isub C dX3_oneMinute_91 ?_
      refine vv_puti C kc_X3 (s_X3 hY hd) 4 (by decide) rfl pf_X3_4 fk_X3_34 dX3_oneMinute_92 (fun σ24 eσ24 => ?_)
      replace h := h σ24 eσ24
      refine vv_aload_n C 2 dX3_oneMinute_95 rfl rfl ?_
      refine vv_dup C dX3_oneMinute_96 rfl ?_
      refine vv_geti C kc_X3 (s_X3 hY hd) 7 (by decide) rfl fk_X3_44 dX3_oneMinute_97 ?_
      refine vv_iload_n C 0 dX3_oneMinute_100 rfl rfl ?_
      refine vv_iadd C dX3_oneMinute_101 ?_
      refine vv_puti C kc_X3 (s_X3 hY hd) 7 (by decide) rfl pf_X3_7 fk_X3_44 dX3_oneMinute_102 (fun σ25 eσ25 => ?_)
      replace h := h σ25 eσ25
      refine vv_sub [2] (L' := [(0, .ref (vv_q Y d))]) rfl ?_
      exact hJk105_6 _ h
set_option maxHeartbeats 2000000 in
set_option maxRecDepth 100000 in
theorem mX3_letPass {Y : vv_Y} (hY : Y.2.2.2.2 = wC) {d : Nat} (hd : is_X3 d) {a1 : Int32} {a2 : Int32} {σ : vv_S} {post : vv_S → Prop} (h : wX3_letPass d a1 a2 σ post) : vv_MV Y yX3_letPass cX3_letPass 4 none 3 68 [.ref (vv_q Y d), .int a1, .int a2] σ post := by
  refine vv_ofV (by decide) (Nat.le_of_ble_eq_true rfl) (fun X C => ?_)
  have C : VC Y X RX3 cX3_letPass 4 none 3 68 := C
  refine vv_sub [0, 1, 2] (L' := [(0, .ref (vv_q Y d)), (1, .int a1), (2, .int a2)]) rfl ?_
  refine vv_iconst C dX3_letPass_0 ki_0 ?_
  refine vv_istore_n (L' := [(3, .int (0 : Int32)), (0, .ref (vv_q Y d)), (1, .int a1), (2, .int a2)]) C dX3_letPass_1 rfl (by decide) rfl ?_
  obtain ⟨n3, h⟩ := h
  have hl1 : ∀ (n3 : Nat) (v1 : Int32) (σ2 : vv_S), lX3_letPass_1 a1 post d a2 n3 v1 σ2 → VJ Y X (va_Qv post (vv_B Y) X.2) 4 2 [(0, .ref (vv_q Y d)), (1, .int a1), (2, .int a2), (3, .int v1)] [] σ2 := by
    clear h
    intro n3
    induction n3 with
    | zero => intro v1 σ2 h; exact False.elim h
    | succ n3 ih1 =>
      intro v1 σ2 h
      refine vv_iload_n C 3 dX3_letPass_2 rfl rfl ?_
      refine vv_iload_n C 1 dX3_letPass_3 rfl rfl ?_
      refine vv_icmp_ge (pc := 4) C 18 dX3_letPass_4 (by decide) (fun hc4 => ?_) (fun hc4 => ?_)
      · replace h := h.1 hc4
        exact vv_vret C dX3_letPass_18 h
      · replace h := h.2 hc4
        refine vv_aload_n C 0 dX3_letPass_7 rfl rfl ?_
        refine vv_iload_n C 2 dX3_letPass_8 rfl rfl ?_
        refine vv_callV (rest := []) C yk_X3_oneMinute vk_X3_oneMinute lk_X3_112 kc_X3.1 (s_X3 hY hd) dX3_letPass_9 (mX3_oneMinute hY hd h) rfl rfl ⟨Nat.le_of_ble_eq_true rfl, Nat.le_of_ble_eq_true rfl⟩ (Nat.le_of_ble_eq_true rfl) (fun σ5 h => ?_)
        obtain ⟨v6, ev6⟩ : ∃ z : Int32, z = v1 + (1 : Int32) := ⟨_, rfl⟩
        replace h := h v6 ev6
        refine vv_iinc (v := v6) (L' := [(3, .int v6), (0, .ref (vv_q Y d)), (1, .int a1), (2, .int a2)]) C 3 dX3_letPass_12 rfl ((kinc ki_1).trans ev6.symm) (by decide) rfl ?_
        refine vv_goto (pc := 15) (tgt := 2) C dX3_letPass_15 (by decide) ?_
        refine vv_sub [1, 2, 3, 0] (L' := [(0, .ref (vv_q Y d)), (1, .int a1), (2, .int a2), (3, .int v6)]) rfl ?_
        exact ih1 _ _ h
  refine vv_sub [1, 2, 3, 0] (L' := [(0, .ref (vv_q Y d)), (1, .int a1), (2, .int a2), (3, .int (0 : Int32))]) rfl ?_
  exact hl1 n3 _ _ h
set_option maxHeartbeats 2000000 in
set_option maxRecDepth 100000 in
theorem mX3_heightAt {Y : vv_Y} (hY : Y.2.2.2.2 = wC) {d : Nat} (hd : is_X3 d) {a1 : Int32} {σ : vv_S} {post : Int32 → vv_S → Prop} (h : wX3_heightAt d a1 σ post) : vv_MI Y yX3_heightAt cX3_heightAt 2 (some .int) 0 0 [.ref (vv_q Y d), .int a1] σ post := by
  refine vv_ofI (by decide) (Nat.le_of_ble_eq_true rfl) (fun X C => ?_)
  have C : VC Y X RX3 cX3_heightAt 2 (some .int) 0 0 := C
  refine vv_sub [0, 1] (L' := [(0, .ref (vv_q Y d)), (1, .int a1)]) rfl ?_
  refine vv_iload_n C 1 dX3_heightAt_0 rfl rfl ?_
  refine vv_join (fun k => ∀ (v1 : Int32), k v1 → VJ Y X (va_Qi post (vv_B Y) X.2) 2 20 [] [.int v1] σ) h (fun v1 h => ?_) (fun k20_1 hJk20_1 h => ?_)
  · exact vv_iret C dX3_heightAt_20 h
  · refine vv_join (fun k =>  k → VJ Y X (va_Qi post (vv_B Y) X.2) 2 19 [] [] σ) h (fun h => ?_) (fun k19_2 hJk19_2 h => ?_)
    · refine vv_iconst C dX3_heightAt_19 ki_0 ?_
      refine vv_sub [] (L' := []) rfl ?_
      exact hJk20_1 _ h
    · refine vv_if_lt (pc := 1) C 19 dX3_heightAt_1 (by decide) (fun hc4 => ?_) (fun hc4 => ?_)
      · replace h := h.1 hc4
        refine vv_sub [] (L' := []) rfl ?_
        exact hJk19_2 h
      · replace h := h.2 hc4
        refine vv_iload_n C 1 dX3_heightAt_4 rfl rfl ?_
        refine vv_bipush C dX3_heightAt_5 kb_8 ?_
        refine vv_icmp_ge (pc := 7) C 19 dX3_heightAt_7 (by decide) (fun hc5 => ?_) (fun hc5 => ?_)
        · replace h := h.1 hc5
          refine vv_sub [] (L' := []) rfl ?_
          exact hJk19_2 h
        · replace h := h.2 hc5
          refine vv_aload_n C 0 dX3_heightAt_10 rfl rfl ?_
          refine vv_getr (r := (d + 1)) C kc_X3 (s_X3 hY hd) 1 (by decide) rfl fk_X3_9 dX3_heightAt_11 ?_
          refine vv_iload_n C 1 dX3_heightAt_14 rfl rfl ?_
          obtain ⟨hi6, h⟩ := h
          refine vv_iald C (a_X3_heights hY hd) hi6 rfl dX3_heightAt_15 ?_
          refine vv_goto (pc := 16) (tgt := 20) C dX3_heightAt_16 (by decide) ?_
          refine vv_sub [] (L' := []) rfl ?_
          exact hJk20_1 _ h
set_option maxHeartbeats 2000000 in
set_option maxRecDepth 100000 in
theorem mX3_canDig {Y : vv_Y} (hY : Y.2.2.2.2 = wC) {d : Nat} (hd : is_X3 d) {a1 : Int32} {a2 : Int32} {σ : vv_S} {post : Int32 → vv_S → Prop} (h : wX3_canDig d a1 a2 σ post) : vv_MI Y yX3_canDig cX3_canDig 3 (some .boolean) 1 21 [.ref (vv_q Y d), .int a1, .int a2] σ post := by
  refine vv_ofI (by decide) (Nat.le_of_ble_eq_true rfl) (fun X C => ?_)
  have C : VC Y X RX3 cX3_canDig 3 (some .boolean) 1 21 := C
  refine vv_sub [0, 1, 2] (L' := [(0, .ref (vv_q Y d)), (1, .int a1), (2, .int a2)]) rfl ?_
  refine vv_aload_n C 0 dX3_canDig_0 rfl rfl ?_
  refine vv_iload_n C 1 dX3_canDig_1 rfl rfl ?_
  refine vv_callI (rest := []) C yk_X3_heightAt vk_X3_heightAt lk_X3_116 kc_X3.1 (s_X3 hY hd) dX3_canDig_2 (mX3_heightAt hY hd h) rfl rfl ⟨Nat.le_of_ble_eq_true rfl, Nat.le_of_ble_eq_true rfl⟩ (Nat.le_of_ble_eq_true rfl) (fun r2 σ1 h => ?_)
  refine vv_iload_n C 2 dX3_canDig_5 rfl rfl ?_
  refine vv_join (fun k => ∀ (v3 : Int32), k v3 → VJ Y X (va_Qi post (vv_B Y) X.2) 3 14 [] [.int v3] σ1) h (fun v3 h => ?_) (fun k14_3 hJk14_3 h => ?_)
  · exact vv_zret C h.1 dX3_canDig_14 h.2
  · refine vv_icmp_lt (pc := 6) C 13 dX3_canDig_6 (by decide) (fun hc5 => ?_) (fun hc5 => ?_)
    · replace h := h.1 hc5
      refine vv_iconst C dX3_canDig_13 ki_0 ?_
      refine vv_sub [] (L' := []) rfl ?_
      exact hJk14_3 _ h
    · replace h := h.2 hc5
      refine vv_iconst C dX3_canDig_9 ki_1 ?_
      refine vv_goto (pc := 10) (tgt := 14) C dX3_canDig_10 (by decide) ?_
      refine vv_sub [] (L' := []) rfl ?_
      exact hJk14_3 _ h
set_option maxHeartbeats 2000000 in
set_option maxRecDepth 100000 in
theorem mX3_stuffAt {Y : vv_Y} (hY : Y.2.2.2.2 = wC) {d : Nat} (hd : is_X3 d) {a1 : Int32} {σ : vv_S} {post : Int32 → vv_S → Prop} (h : wX3_stuffAt d a1 σ post) : vv_MI Y yX3_stuffAt cX3_stuffAt 2 (some .int) 0 0 [.ref (vv_q Y d), .int a1] σ post := by
  refine vv_ofI (by decide) (Nat.le_of_ble_eq_true rfl) (fun X C => ?_)
  have C : VC Y X RX3 cX3_stuffAt 2 (some .int) 0 0 := C
  refine vv_sub [0, 1] (L' := [(0, .ref (vv_q Y d)), (1, .int a1)]) rfl ?_
  refine vv_iload_n C 1 dX3_stuffAt_0 rfl rfl ?_
  refine vv_join (fun k => ∀ (v1 : Int32), k v1 → VJ Y X (va_Qi post (vv_B Y) X.2) 2 20 [] [.int v1] σ) h (fun v1 h => ?_) (fun k20_1 hJk20_1 h => ?_)
  · exact vv_iret C dX3_stuffAt_20 h
  · refine vv_join (fun k =>  k → VJ Y X (va_Qi post (vv_B Y) X.2) 2 19 [] [] σ) h (fun h => ?_) (fun k19_2 hJk19_2 h => ?_)
    · refine vv_iconst C dX3_stuffAt_19 ki_0 ?_
      refine vv_sub [] (L' := []) rfl ?_
      exact hJk20_1 _ h
    · refine vv_if_lt (pc := 1) C 19 dX3_stuffAt_1 (by decide) (fun hc4 => ?_) (fun hc4 => ?_)
      · replace h := h.1 hc4
        refine vv_sub [] (L' := []) rfl ?_
        exact hJk19_2 h
      · replace h := h.2 hc4
        refine vv_iload_n C 1 dX3_stuffAt_4 rfl rfl ?_
        refine vv_bipush C dX3_stuffAt_5 kb_8 ?_
        refine vv_icmp_ge (pc := 7) C 19 dX3_stuffAt_7 (by decide) (fun hc5 => ?_) (fun hc5 => ?_)
        · replace h := h.1 hc5
          refine vv_sub [] (L' := []) rfl ?_
          exact hJk19_2 h
        · replace h := h.2 hc5
          refine vv_aload_n C 0 dX3_stuffAt_10 rfl rfl ?_
          refine vv_getr (r := (d + 2)) C kc_X3 (s_X3 hY hd) 2 (by decide) rfl fk_X3_15 dX3_stuffAt_11 ?_
          refine vv_iload_n C 1 dX3_stuffAt_14 rfl rfl ?_
          obtain ⟨hi6, h⟩ := h
          refine vv_iald C (a_X3_stuffs hY hd) hi6 rfl dX3_stuffAt_15 ?_
          refine vv_goto (pc := 16) (tgt := 20) C dX3_stuffAt_16 (by decide) ?_
          refine vv_sub [] (L' := []) rfl ?_
          exact hJk20_1 _ h
set_option maxHeartbeats 2000000 in
set_option maxRecDepth 100000 in
theorem mX3_remake {Y : vv_Y} (hY : Y.2.2.2.2 = wC) {d : Nat} (hd : is_X3 d) {a1 : Int32} {a2 : Int32} {a3 : Int32} {σ : vv_S} {post : vv_S → Prop} (h : wX3_remake d a1 a2 a3 σ post) : vv_MV Y yX3_remake cX3_remake 4 none 2 42 [.ref (vv_q Y d), .int a1, .int a2, .int a3] σ post := by
  refine vv_ofV (by decide) (Nat.le_of_ble_eq_true rfl) (fun X C => ?_)
  have C : VC Y X RX3 cX3_remake 4 none 2 42 := C
  refine vv_sub [0, 1, 2, 3] (L' := [(0, .ref (vv_q Y d)), (1, .int a1), (2, .int a2), (3, .int a3)]) rfl ?_
  refine vv_iload_n C 1 dX3_remake_0 rfl rfl ?_
  refine vv_join (fun k =>  k → VJ Y X (va_Qv post (vv_B Y) X.2) 4 10 [] [] σ) h (fun h => ?_) (fun k10_0 hJk10_0 h => ?_)
  · exact vv_vret C dX3_remake_10 h
  · refine vv_if_lt (pc := 1) C 10 dX3_remake_1 (by decide) (fun hc2 => ?_) (fun hc2 => ?_)
    · replace h := h.1 hc2
      refine vv_sub [] (L' := []) rfl ?_
      exact hJk10_0 h
    · replace h := h.2 hc2
      refine vv_iload_n C 1 dX3_remake_4 rfl rfl ?_
      refine vv_bipush C dX3_remake_5 kb_8 ?_
      refine vv_icmp_lt (pc := 7) C 11 dX3_remake_7 (by decide) (fun hc3 => ?_) (fun hc3 => ?_)
      · replace h := h.1 hc3
        refine vv_aload_n C 0 dX3_remake_11 rfl rfl ?_
        refine vv_getr (r := (d + 1)) C kc_X3 (s_X3 hY hd) 1 (by decide) rfl fk_X3_9 dX3_remake_12 ?_
        refine vv_iload_n C 1 dX3_remake_15 rfl rfl ?_
        refine vv_iload_n C 3 dX3_remake_16 rfl rfl ?_
        obtain ⟨hi4, h⟩ := h
        refine vv_iast C (a_X3_heights hY hd) hi4 rfl dX3_remake_17 (fun σ5 eσ5 => ?_)
        replace h := h σ5 eσ5
        refine vv_aload_n C 0 dX3_remake_18 rfl rfl ?_
        refine vv_getr (r := (d + 2)) C kc_X3 (s_X3 hY hd) 2 (by decide) rfl fk_X3_15 dX3_remake_19 ?_
        refine vv_iload_n C 1 dX3_remake_22 rfl rfl ?_
        refine vv_iload_n C 2 dX3_remake_23 rfl rfl ?_
        obtain ⟨hi6, h⟩ := h
        refine vv_iast C (a_X3_stuffs hY hd) hi6 rfl dX3_remake_24 (fun σ7 eσ7 => ?_)
        replace h := h σ7 eσ7
        refine vv_aload_n C 0 dX3_remake_25 rfl rfl ?_
        refine vv_callV (rest := []) C yk_X3_survey vk_X3_survey lk_X3_47 kc_X3.1 (s_X3 hY hd) dX3_remake_26 (mX3_survey hY hd h) rfl rfl ⟨Nat.le_of_ble_eq_true rfl, Nat.le_of_ble_eq_true rfl⟩ (Nat.le_of_ble_eq_true rfl) (fun σ8 h => ?_)
        exact vv_vret C dX3_remake_29 h
      · replace h := h.2 hc3
        refine vv_sub [] (L' := []) rfl ?_
        exact hJk10_0 h
set_option maxHeartbeats 2000000 in
set_option maxRecDepth 100000 in
theorem mX3_digAt {Y : vv_Y} (hY : Y.2.2.2.2 = wC) {d : Nat} (hd : is_X3 d) {a1 : Int32} {a2 : Int32} {σ : vv_S} {post : vv_S → Prop} (h : wX3_digAt d a1 a2 σ post) : vv_MV Y yX3_digAt cX3_digAt 3 none 3 65 [.ref (vv_q Y d), .int a1, .int a2] σ post := by
  refine vv_ofV (by decide) (Nat.le_of_ble_eq_true rfl) (fun X C => ?_)
  have C : VC Y X RX3 cX3_digAt 3 none 3 65 := C
  refine vv_sub [0, 1, 2] (L' := [(0, .ref (vv_q Y d)), (1, .int a1), (2, .int a2)]) rfl ?_
  refine vv_aload_n C 0 dX3_digAt_0 rfl rfl ?_
  refine vv_iload_n C 1 dX3_digAt_1 rfl rfl ?_
  refine vv_aload_n C 0 dX3_digAt_2 rfl rfl ?_
  refine vv_iload_n C 1 dX3_digAt_3 rfl rfl ?_
  refine vv_callI (rest := [.int a1, .ref (vv_q Y d)]) C yk_X3_stuffAt vk_X3_stuffAt lk_X3_123 kc_X3.1 (s_X3 hY hd) dX3_digAt_4 (mX3_stuffAt hY hd h) rfl rfl ⟨Nat.le_of_ble_eq_true rfl, Nat.le_of_ble_eq_true rfl⟩ (Nat.le_of_ble_eq_true rfl) (fun r2 σ1 h => ?_)
  refine vv_aload_n C 0 dX3_digAt_7 rfl rfl ?_
  refine vv_iload_n C 1 dX3_digAt_8 rfl rfl ?_
  refine vv_callI (rest := [.int r2, .int a1, .ref (vv_q Y d)]) C yk_X3_heightAt vk_X3_heightAt lk_X3_116 kc_X3.1 (s_X3 hY hd) dX3_digAt_9 (mX3_heightAt hY hd h) rfl rfl ⟨Nat.le_of_ble_eq_true rfl, Nat.le_of_ble_eq_true rfl⟩ (Nat.le_of_ble_eq_true rfl) (fun r4 σ3 h => ?_)
  refine vv_iload_n C 2 dX3_digAt_12 rfl rfl ?_
  refine vv_isub C dX3_digAt_13 ?_
  refine vv_callV (rest := []) C yk_X3_remake vk_X3_remake lk_X3_119 kc_X3.1 (s_X3 hY hd) dX3_digAt_14 (mX3_remake hY hd h) rfl rfl ⟨Nat.le_of_ble_eq_true rfl, Nat.le_of_ble_eq_true rfl⟩ (Nat.le_of_ble_eq_true rfl) (fun σ5 h => ?_)
  exact vv_vret C dX3_digAt_17 h
set_option maxHeartbeats 2000000 in
set_option maxRecDepth 100000 in
theorem mX3_canRaise {Y : vv_Y} (hY : Y.2.2.2.2 = wC) {d : Nat} (hd : is_X3 d) {a1 : Int32} {a2 : Int32} {σ : vv_S} {post : Int32 → vv_S → Prop} (h : wX3_canRaise d a1 a2 σ post) : vv_MI Y yX3_canRaise cX3_canRaise 3 (some .boolean) 1 21 [.ref (vv_q Y d), .int a1, .int a2] σ post := by
  refine vv_ofI (by decide) (Nat.le_of_ble_eq_true rfl) (fun X C => ?_)
  have C : VC Y X RX3 cX3_canRaise 3 (some .boolean) 1 21 := C
  refine vv_sub [0, 1, 2] (L' := [(0, .ref (vv_q Y d)), (1, .int a1), (2, .int a2)]) rfl ?_
  refine vv_aload_n C 0 dX3_canRaise_0 rfl rfl ?_
  refine vv_iload_n C 1 dX3_canRaise_1 rfl rfl ?_
  refine vv_callI (rest := []) C yk_X3_heightAt vk_X3_heightAt lk_X3_116 kc_X3.1 (s_X3 hY hd) dX3_canRaise_2 (mX3_heightAt hY hd h) rfl rfl ⟨Nat.le_of_ble_eq_true rfl, Nat.le_of_ble_eq_true rfl⟩ (Nat.le_of_ble_eq_true rfl) (fun r2 σ1 h => ?_)
  refine vv_iload_n C 2 dX3_canRaise_5 rfl rfl ?_
  refine vv_iadd C dX3_canRaise_6 ?_
  refine vv_bipush C dX3_canRaise_7 kb_40 ?_
  refine vv_join (fun k => ∀ (v3 : Int32), k v3 → VJ Y X (va_Qi post (vv_B Y) X.2) 3 17 [] [.int v3] σ1) h (fun v3 h => ?_) (fun k17_3 hJk17_3 h => ?_)
  · exact vv_zret C h.1 dX3_canRaise_17 h.2
  · refine vv_icmp_gt (pc := 9) C 16 dX3_canRaise_9 (by decide) (fun hc5 => ?_) (fun hc5 => ?_)
    · replace h := h.1 hc5
      refine vv_iconst C dX3_canRaise_16 ki_0 ?_
      refine vv_sub [] (L' := []) rfl ?_
      exact hJk17_3 _ h
    · replace h := h.2 hc5
      refine vv_iconst C dX3_canRaise_12 ki_1 ?_
      refine vv_goto (pc := 13) (tgt := 17) C dX3_canRaise_13 (by decide) ?_
      refine vv_sub [] (L' := []) rfl ?_
      exact hJk17_3 _ h
set_option maxHeartbeats 2000000 in
set_option maxRecDepth 100000 in
theorem mX3_layAt {Y : vv_Y} (hY : Y.2.2.2.2 = wC) {d : Nat} (hd : is_X3 d) {a1 : Int32} {a2 : Int32} {a3 : Int32} {σ : vv_S} {post : vv_S → Prop} (h : wX3_layAt d a1 a2 a3 σ post) : vv_MV Y yX3_layAt cX3_layAt 4 none 3 65 [.ref (vv_q Y d), .int a1, .int a2, .int a3] σ post := by
  refine vv_ofV (by decide) (Nat.le_of_ble_eq_true rfl) (fun X C => ?_)
  have C : VC Y X RX3 cX3_layAt 4 none 3 65 := C
  refine vv_sub [0, 1, 2, 3] (L' := [(0, .ref (vv_q Y d)), (1, .int a1), (2, .int a2), (3, .int a3)]) rfl ?_
  refine vv_aload_n C 0 dX3_layAt_0 rfl rfl ?_
  refine vv_iload_n C 1 dX3_layAt_1 rfl rfl ?_
  refine vv_iload_n C 2 dX3_layAt_2 rfl rfl ?_
  refine vv_aload_n C 0 dX3_layAt_3 rfl rfl ?_
  refine vv_iload_n C 1 dX3_layAt_4 rfl rfl ?_
  refine vv_callI (rest := [.int a2, .int a1, .ref (vv_q Y d)]) C yk_X3_heightAt vk_X3_heightAt lk_X3_116 kc_X3.1 (s_X3 hY hd) dX3_layAt_5 (mX3_heightAt hY hd h) rfl rfl ⟨Nat.le_of_ble_eq_true rfl, Nat.le_of_ble_eq_true rfl⟩ (Nat.le_of_ble_eq_true rfl) (fun r2 σ1 h => ?_)
  refine vv_iload_n C 3 dX3_layAt_8 rfl rfl ?_
  refine vv_iadd C dX3_layAt_9 ?_
  refine vv_callV (rest := []) C yk_X3_remake vk_X3_remake lk_X3_119 kc_X3.1 (s_X3 hY hd) dX3_layAt_10 (mX3_remake hY hd h) rfl rfl ⟨Nat.le_of_ble_eq_true rfl, Nat.le_of_ble_eq_true rfl⟩ (Nat.le_of_ble_eq_true rfl) (fun σ3 h => ?_)
  exact vv_vret C dX3_layAt_13 h
set_option maxHeartbeats 2000000 in
set_option maxRecDepth 100000 in
theorem mX0_doOne {Y : vv_Y} (hY : Y.2.2.2.2 = wC) {a1 : Int32} {a2 : Int32} {a3 : Int32} {a4 : Int32} {o5 : Nat} (ho5 : is_X3 o5) {σ : vv_S} {post : vv_S → Prop} (h : wX0_doOne a1 a2 a3 a4 o5 σ post) : vv_MV Y yX0_doOne cX0_doOne 5 none 4 91 [.int a1, .int a2, .int a3, .int a4, .ref (vv_q Y o5)] σ post := by
  refine vv_ofV (by decide) (Nat.le_of_ble_eq_true rfl) (fun X C => ?_)
  have C : VC Y X RX0 cX0_doOne 5 none 4 91 := C
  refine vv_sub [0, 1, 2, 3, 4] (L' := [(0, .int a1), (1, .int a2), (2, .int a3), (3, .int a4), (4, .ref (vv_q Y o5))]) rfl ?_
  refine vv_iload_n C 0 dX0_doOne_0 rfl rfl ?_
  refine vv_join (fun k => ∀ (σ1 : vv_S), k σ1 → VJ Y X (va_Qv post (vv_B Y) X.2) 5 71 [] [] σ1) h (fun σ1 h => ?_) (fun k71_1 hJk71_1 h => ?_)
  · exact vv_vret C dX0_doOne_71 h
  · refine vv_join (fun k => ∀ (σ3 : vv_S), k σ3 → VJ Y X (va_Qv post (vv_B Y) X.2) 5 25 [(0, .int a1), (1, .int a2), (3, .int a4), (4, .ref (vv_q Y o5))] [] σ3) h (fun σ3 h => ?_) (fun k25_3 hJk25_3 h => ?_)
    · refine vv_iload_n C 0 dX0_doOne_25 rfl rfl ?_
      refine vv_iconst C dX0_doOne_26 ki_1 ?_
      refine vv_join (fun k => ∀ (σ5 : vv_S), k σ5 → VJ Y X (va_Qv post (vv_B Y) X.2) 5 50 [(0, .int a1), (3, .int a4), (4, .ref (vv_q Y o5))] [] σ5) h (fun σ5 h => ?_) (fun k50_5 hJk50_5 h => ?_)
      · refine vv_iload_n C 0 dX0_doOne_50 rfl rfl ?_
        refine vv_iconst C dX0_doOne_51 ki_2 ?_
        refine vv_icmp_ne (pc := 52) C 71 dX0_doOne_52 (by decide) (fun hc7 => ?_) (fun hc7 => ?_)
        · replace h := h.1 hc7
          refine vv_sub [] (L' := []) rfl ?_
          exact hJk71_1 _ h
        · replace h := h.2 hc7
          refine vv_aload C 2 dX0_doOne_55 rfl ?_
          refine vv_iload_n C 1 dX0_doOne_57 rfl rfl ?_
          refine vv_callI (rest := []) C yk_X3_canPass vk_X3_canPass lk_X0_58 kc_X3.1 (s_X3 hY ho5) dX0_doOne_58 (mX3_canPass hY ho5 h) rfl rfl ⟨Nat.le_of_ble_eq_true rfl, Nat.le_of_ble_eq_true rfl⟩ (Nat.le_of_ble_eq_true rfl) (fun r9 σ8 h => ?_)
          refine vv_if_eq (pc := 61) C 71 dX0_doOne_61 (by decide) (fun hc10 => ?_) (fun hc10 => ?_)
          · replace h := h.1 hc10
            refine vv_sub [] (L' := []) rfl ?_
            exact hJk71_1 _ h
          · replace h := h.2 hc10
            refine vv_aload C 2 dX0_doOne_64 rfl ?_
            refine vv_iload_n C 1 dX0_doOne_66 rfl rfl ?_
            refine vv_iconst C dX0_doOne_67 ki_0 ?_
            refine vv_callV (rest := []) C yk_X3_letPass vk_X3_letPass lk_X0_62 kc_X3.1 (s_X3 hY ho5) dX0_doOne_68 (mX3_letPass hY ho5 h) rfl rfl ⟨Nat.le_of_ble_eq_true rfl, Nat.le_of_ble_eq_true rfl⟩ (Nat.le_of_ble_eq_true rfl) (fun σ11 h => ?_)
            refine vv_sub [] (L' := []) rfl ?_
            exact hJk71_1 _ h
      · refine vv_icmp_ne (pc := 27) C 50 dX0_doOne_27 (by decide) (fun hc12 => ?_) (fun hc12 => ?_)
        · replace h := h.1 hc12
          refine vv_sub [0, 2, 3] (L' := [(0, .int a1), (3, .int a4), (4, .ref (vv_q Y o5))]) rfl ?_
          exact hJk50_5 _ h
        · replace h := h.2 hc12
          refine vv_aload C 3 dX0_doOne_30 rfl ?_
          refine vv_iload_n C 1 dX0_doOne_32 rfl rfl ?_
          refine vv_iload_n C 2 dX0_doOne_33 rfl rfl ?_
          refine vv_callI (rest := []) C yk_X3_canDig vk_X3_canDig lk_X0_51 kc_X3.1 (s_X3 hY ho5) dX0_doOne_34 (mX3_canDig hY ho5 h) rfl rfl ⟨Nat.le_of_ble_eq_true rfl, Nat.le_of_ble_eq_true rfl⟩ (Nat.le_of_ble_eq_true rfl) (fun r14 σ13 h => ?_)
          refine vv_if_eq (pc := 37) C 50 dX0_doOne_37 (by decide) (fun hc15 => ?_) (fun hc15 => ?_)
          · replace h := h.1 hc15
            refine vv_sub [0, 2, 3] (L' := [(0, .int a1), (3, .int a4), (4, .ref (vv_q Y o5))]) rfl ?_
            exact hJk50_5 _ h
          · replace h := h.2 hc15
            refine vv_aload C 3 dX0_doOne_40 rfl ?_
            refine vv_iload_n C 1 dX0_doOne_42 rfl rfl ?_
            refine vv_iload_n C 2 dX0_doOne_43 rfl rfl ?_
            refine vv_callV (rest := []) C yk_X3_digAt vk_X3_digAt lk_X0_54 kc_X3.1 (s_X3 hY ho5) dX0_doOne_44 (mX3_digAt hY ho5 h) rfl rfl ⟨Nat.le_of_ble_eq_true rfl, Nat.le_of_ble_eq_true rfl⟩ (Nat.le_of_ble_eq_true rfl) (fun σ16 h => ?_)
            refine vv_goto (pc := 47) (tgt := 71) C dX0_doOne_47 (by decide) ?_
            refine vv_sub [] (L' := []) rfl ?_
            exact hJk71_1 _ h
    · refine vv_if_ne (pc := 1) C 25 dX0_doOne_1 (by decide) (fun hc17 => ?_) (fun hc17 => ?_)
      · replace h := h.1 hc17
        refine vv_sub [0, 1, 3, 4] (L' := [(0, .int a1), (1, .int a2), (3, .int a4), (4, .ref (vv_q Y o5))]) rfl ?_
        exact hJk25_3 _ h
      · replace h := h.2 hc17
        refine vv_aload C 4 dX0_doOne_4 rfl ?_
        refine vv_iload_n C 1 dX0_doOne_6 rfl rfl ?_
        refine vv_iload_n C 3 dX0_doOne_7 rfl rfl ?_
        refine vv_callI (rest := []) C yk_X3_canRaise vk_X3_canRaise lk_X0_43 kc_X3.1 (s_X3 hY ho5) dX0_doOne_8 (mX3_canRaise hY ho5 h) rfl rfl ⟨Nat.le_of_ble_eq_true rfl, Nat.le_of_ble_eq_true rfl⟩ (Nat.le_of_ble_eq_true rfl) (fun r19 σ18 h => ?_)
        refine vv_if_eq (pc := 11) C 25 dX0_doOne_11 (by decide) (fun hc20 => ?_) (fun hc20 => ?_)
        · replace h := h.1 hc20
          refine vv_sub [0, 1, 3, 4] (L' := [(0, .int a1), (1, .int a2), (3, .int a4), (4, .ref (vv_q Y o5))]) rfl ?_
          exact hJk25_3 _ h
        · replace h := h.2 hc20
          refine vv_aload C 4 dX0_doOne_14 rfl ?_
          refine vv_iload_n C 1 dX0_doOne_16 rfl rfl ?_
          refine vv_iload_n C 2 dX0_doOne_17 rfl rfl ?_
          refine vv_iload_n C 3 dX0_doOne_18 rfl rfl ?_
          refine vv_callV (rest := []) C yk_X3_layAt vk_X3_layAt lk_X0_47 kc_X3.1 (s_X3 hY ho5) dX0_doOne_19 (mX3_layAt hY ho5 h) rfl rfl ⟨Nat.le_of_ble_eq_true rfl, Nat.le_of_ble_eq_true rfl⟩ (Nat.le_of_ble_eq_true rfl) (fun σ21 h => ?_)
          refine vv_goto (pc := 22) (tgt := 71) C dX0_doOne_22 (by decide) ?_
          refine vv_sub [] (L' := []) rfl ?_
          exact hJk71_1 _ h
set_option maxHeartbeats 2000000 in
set_option maxRecDepth 100000 in
theorem mX0_doAllBut {Y : vv_Y} (hY : Y.2.2.2.2 = wC) {d : Nat} (hd : is_X0 d) {a1 : Int32} {o2 : Nat} (ho2 : is_X3 o2) {σ : vv_S} {post : vv_S → Prop} (h : wX0_doAllBut d a1 o2 σ post) : vv_MV Y yX0_doAllBut cX0_doAllBut 4 none 5 115 [.ref (vv_q Y d), .int a1, .ref (vv_q Y o2)] σ post := by
  refine vv_ofV (by decide) (Nat.le_of_ble_eq_true rfl) (fun X C => ?_)
  have C : VC Y X RX0 cX0_doAllBut 4 none 5 115 := C
  refine vv_sub [0, 1, 2] (L' := [(0, .ref (vv_q Y d)), (1, .int a1), (2, .ref (vv_q Y o2))]) rfl ?_
  refine vv_aload_n C 2 dX0_doAllBut_0 rfl rfl ?_
  refine vv_callV (rest := []) C yk_X3_startAnew vk_X3_startAnew lk_X0_34 kc_X3.1 (s_X3 hY ho2) dX0_doAllBut_1 (mX3_startAnew hY ho2 h) rfl rfl ⟨Nat.le_of_ble_eq_true rfl, Nat.le_of_ble_eq_true rfl⟩ (Nat.le_of_ble_eq_true rfl) (fun σ1 h => ?_)
  refine vv_iconst C dX0_doAllBut_4 ki_0 ?_
  refine vv_istore_n (L' := [(3, .int (0 : Int32)), (0, .ref (vv_q Y d)), (1, .int a1), (2, .ref (vv_q Y o2))]) C dX0_doAllBut_5 rfl (by decide) rfl ?_
  refine vv_join (fun k => ∀ (σ2 : vv_S), k σ2 → VJ Y X (va_Qv post (vv_B Y) X.2) 4 59 [] [] σ2) h (fun σ2 h => ?_) (fun k59_2 hJk59_2 h => ?_)
  · exact vv_vret C dX0_doAllBut_59 h
  · obtain ⟨n6, h⟩ := h
    have hl1 : ∀ (n6 : Nat) (v4 : Int32) (σ5 : vv_S), lX0_doAllBut_1 d k59_2 a1 o2 n6 v4 σ5 → VJ Y X (va_Qv post (vv_B Y) X.2) 4 6 [(0, .ref (vv_q Y d)), (1, .int a1), (2, .ref (vv_q Y o2)), (3, .int v4)] [] σ5 := by
      clear h
      intro n6
      induction n6 with
      | zero => intro v4 σ5 h; exact False.elim h
      | succ n6 ih1 =>
        intro v4 σ5 h
        refine vv_iload_n C 3 dX0_doAllBut_6 rfl rfl ?_
        refine vv_aload_n C 0 dX0_doAllBut_7 rfl rfl ?_
        refine vv_geti C kc_X0 (s_X0 hY hd) 4 (by decide) rfl fk_X0_24 dX0_doAllBut_8 ?_
        refine vv_icmp_ge (pc := 11) C 59 dX0_doAllBut_11 (by decide) (fun hc7 => ?_) (fun hc7 => ?_)
        · replace h := h.1 hc7
          refine vv_sub [] (L' := []) rfl ?_
          exact hJk59_2 _ h
        · replace h := h.2 hc7
          refine vv_iload_n C 3 dX0_doAllBut_14 rfl rfl ?_
          refine vv_bipush C dX0_doAllBut_15 kb_30 ?_
          refine vv_icmp_ge (pc := 17) C 59 dX0_doAllBut_17 (by decide) (fun hc8 => ?_) (fun hc8 => ?_)
          · replace h := h.1 hc8
            refine vv_sub [] (L' := []) rfl ?_
            exact hJk59_2 _ h
          · replace h := h.2 hc8
            refine vv_iload_n C 3 dX0_doAllBut_20 rfl rfl ?_
            refine vv_iload_n C 1 dX0_doAllBut_21 rfl rfl ?_
            refine vv_join (fun k => ∀ (σ9 : vv_S), k σ9 → VJ Y X (va_Qv post (vv_B Y) X.2) 4 53 [(0, .ref (vv_q Y d)), (1, .int a1), (2, .ref (vv_q Y o2)), (3, .int v4)] [] σ9) h (fun σ9 h => ?_) (fun k53_9 hJk53_9 h => ?_)
            · obtain ⟨v11, ev11⟩ : ∃ z : Int32, z = v4 + (1 : Int32) := ⟨_, rfl⟩
              replace h := h v11 ev11
              refine vv_iinc (v := v11) (L' := [(3, .int v11), (0, .ref (vv_q Y d)), (1, .int a1), (2, .ref (vv_q Y o2))]) C 3 dX0_doAllBut_53 rfl ((kinc ki_1).trans ev11.symm) (by decide) rfl ?_
              refine vv_goto (pc := 56) (tgt := 6) C dX0_doAllBut_56 (by decide) ?_
              refine vv_sub [1, 2, 3, 0] (L' := [(0, .ref (vv_q Y d)), (1, .int a1), (2, .ref (vv_q Y o2)), (3, .int v11)]) rfl ?_
              exact ih1 _ _ h
            · refine vv_icmp_eq (pc := 22) C 53 dX0_doAllBut_22 (by decide) (fun hc12 => ?_) (fun hc12 => ?_)
              · replace h := h.1 hc12
                refine vv_sub [0, 1, 2, 3] (L' := [(0, .ref (vv_q Y d)), (1, .int a1), (2, .ref (vv_q Y o2)), (3, .int v4)]) rfl ?_
                exact hJk53_9 _ h
              · replace h := h.2 hc12
                refine vv_aload_n C 0 dX0_doAllBut_25 rfl rfl ?_
                refine vv_getr (r := (d + 1)) C kc_X0 (s_X0 hY hd) 0 (by decide) rfl fk_X0_9 dX0_doAllBut_26 ?_
                refine vv_iload_n C 3 dX0_doAllBut_29 rfl rfl ?_
                obtain ⟨hi13, h⟩ := h
                refine vv_iald C (a_X0_kinds hY hd) hi13 rfl dX0_doAllBut_30 ?_
                refine vv_aload_n C 0 dX0_doAllBut_31 rfl rfl ?_
                refine vv_getr (r := (d + 2)) C kc_X0 (s_X0 hY hd) 1 (by decide) rfl fk_X0_15 dX0_doAllBut_32 ?_
                refine vv_iload_n C 3 dX0_doAllBut_35 rfl rfl ?_
                obtain ⟨hi14, h⟩ := h
                refine vv_iald C (a_X0_places hY hd) hi14 rfl dX0_doAllBut_36 ?_
                refine vv_aload_n C 0 dX0_doAllBut_37 rfl rfl ?_
                refine vv_getr (r := (d + 3)) C kc_X0 (s_X0 hY hd) 2 (by decide) rfl fk_X0_18 dX0_doAllBut_38 ?_
                refine vv_iload_n C 3 dX0_doAllBut_41 rfl rfl ?_
                obtain ⟨hi15, h⟩ := h
                refine vv_iald C (a_X0_stuffs hY hd) hi15 rfl dX0_doAllBut_42 ?_
                refine vv_aload_n C 0 dX0_doAllBut_43 rfl rfl ?_
                refine vv_getr (r := (d + 4)) C kc_X0 (s_X0 hY hd) 3 (by decide) rfl fk_X0_21 dX0_doAllBut_44 ?_
                refine vv_iload_n C 3 dX0_doAllBut_47 rfl rfl ?_
                obtain ⟨hi16, h⟩ := h
                refine vv_iald C (a_X0_amounts hY hd) hi16 rfl dX0_doAllBut_48 ?_
                refine vv_aload_n C 2 dX0_doAllBut_49 rfl rfl ?_
                refine vv_callSv (rest := []) C yk_X0_doOne sk_X0_doOne lk_X0_39 dX0_doAllBut_50 (mX0_doOne hY ho2 h) rfl rfl ⟨Nat.le_of_ble_eq_true rfl, Nat.le_of_ble_eq_true rfl⟩ (Nat.le_of_ble_eq_true rfl) (fun σ17 h => ?_)
                refine vv_sub [0, 1, 2, 3] (L' := [(0, .ref (vv_q Y d)), (1, .int a1), (2, .ref (vv_q Y o2)), (3, .int v4)]) rfl ?_
                exact hJk53_9 _ h
    refine vv_sub [1, 2, 3, 0] (L' := [(0, .ref (vv_q Y d)), (1, .int a1), (2, .ref (vv_q Y o2)), (3, .int (0 : Int32))]) rfl ?_
    exact hl1 n6 _ _ h
set_option maxHeartbeats 2000000 in
set_option maxRecDepth 100000 in
theorem mX1_clear {Y : vv_Y} (hY : Y.2.2.2.2 = wC) {d : Nat} (hd : is_X1 d) {σ : vv_S} {post : vv_S → Prop} (h : wX1_clear d σ post) : vv_MV Y yX1_clear cX1_clear 1 none 0 0 [.ref (vv_q Y d)] σ post := by
  refine vv_ofV (by decide) (Nat.le_of_ble_eq_true rfl) (fun X C => ?_)
  have C : VC Y X RX1 cX1_clear 1 none 0 0 := C
  refine vv_sub [0] (L' := [(0, .ref (vv_q Y d))]) rfl ?_
  refine vv_aload_n C 0 dX1_clear_0 rfl rfl ?_
  refine vv_iconst C dX1_clear_1 ki_0 ?_
  refine vv_puti C kc_X1 (s_X1 hY hd) 2 (by decide) rfl pf_X1_2 fk_X1_30 dX1_clear_2 (fun σ1 eσ1 => ?_)
  replace h := h σ1 eσ1
  refine vv_aload_n C 0 dX1_clear_5 rfl rfl ?_
  refine vv_iconst C dX1_clear_6 ki_0 ?_
  refine vv_puti C kc_X1 (s_X1 hY hd) 6 (by decide) rfl pf_X1_6 fk_X1_34 dX1_clear_7 (fun σ2 eσ2 => ?_)
  replace h := h σ2 eσ2
  exact vv_vret C dX1_clear_10 h
set_option maxHeartbeats 2000000 in
set_option maxRecDepth 100000 in
theorem mX1_addFlow {Y : vv_Y} (hY : Y.2.2.2.2 = wC) {d : Nat} (hd : is_X1 d) {a1 : Int32} {a2 : Int32} {σ : vv_S} {post : Int32 → vv_S → Prop} (h : wX1_addFlow d a1 a2 σ post) : vv_MI Y yX1_addFlow cX1_addFlow 3 (some .boolean) 0 0 [.ref (vv_q Y d), .int a1, .int a2] σ post := by
  refine vv_ofI (by decide) (Nat.le_of_ble_eq_true rfl) (fun X C => ?_)
  have C : VC Y X RX1 cX1_addFlow 3 (some .boolean) 0 0 := C
  refine vv_sub [0, 1, 2] (L' := [(0, .ref (vv_q Y d)), (1, .int a1), (2, .int a2)]) rfl ?_
  refine vv_aload_n C 0 dX1_addFlow_0 rfl rfl ?_
  refine vv_geti C kc_X1 (s_X1 hY hd) 2 (by decide) rfl fk_X1_30 dX1_addFlow_1 ?_
  refine vv_join (fun k =>  k → VJ Y X (va_Qi post (vv_B Y) X.2) 3 21 [] [] σ) h (fun h => ?_) (fun k21_0 hJk21_0 h => ?_)
  · refine vv_iconst C dX1_addFlow_21 ki_0 ?_
    exact vv_zret C (Or.inl rfl) dX1_addFlow_22 h
  · refine vv_if_lt (pc := 4) C 21 dX1_addFlow_4 (by decide) (fun hc2 => ?_) (fun hc2 => ?_)
    · replace h := h.1 hc2
      refine vv_sub [] (L' := []) rfl ?_
      exact hJk21_0 h
    · replace h := h.2 hc2
      refine vv_aload_n C 0 dX1_addFlow_7 rfl rfl ?_
      refine vv_geti C kc_X1 (s_X1 hY hd) 2 (by decide) rfl fk_X1_30 dX1_addFlow_8 ?_
      refine vv_iconst C dX1_addFlow_11 ki_4 ?_
      refine vv_icmp_ge (pc := 12) C 21 dX1_addFlow_12 (by decide) (fun hc3 => ?_) (fun hc3 => ?_)
      · replace h := h.1 hc3
        refine vv_sub [] (L' := []) rfl ?_
        exact hJk21_0 h
      · replace h := h.2 hc3
        refine vv_iload_n C 2 dX1_addFlow_15 rfl rfl ?_
        refine vv_bipush C dX1_addFlow_16 kb_60 ?_
        refine vv_icmp_le (pc := 18) C 23 dX1_addFlow_18 (by decide) (fun hc4 => ?_) (fun hc4 => ?_)
        · replace h := h.1 hc4
          refine vv_aload_n C 0 dX1_addFlow_23 rfl rfl ?_
          refine vv_getr (r := (d + 1)) C kc_X1 (s_X1 hY hd) 0 (by decide) rfl fk_X1_9 dX1_addFlow_24 ?_
          refine vv_aload_n C 0 dX1_addFlow_27 rfl rfl ?_
          refine vv_geti C kc_X1 (s_X1 hY hd) 2 (by decide) rfl fk_X1_30 dX1_addFlow_28 ?_
          refine vv_iload_n C 1 dX1_addFlow_31 rfl rfl ?_
          obtain ⟨hi5, h⟩ := h
          refine vv_iast C (a_X1_flowFrom hY hd) hi5 rfl dX1_addFlow_32 (fun σ6 eσ6 => ?_)
          replace h := h σ6 eσ6
          refine vv_aload_n C 0 dX1_addFlow_33 rfl rfl ?_
          refine vv_getr (r := (d + 2)) C kc_X1 (s_X1 hY hd) 1 (by decide) rfl fk_X1_15 dX1_addFlow_34 ?_
          refine vv_aload_n C 0 dX1_addFlow_37 rfl rfl ?_
          refine vv_geti C kc_X1 (s_X1 hY hd) 2 (by decide) rfl fk_X1_30 dX1_addFlow_38 ?_
          refine vv_iload_n C 2 dX1_addFlow_41 rfl rfl ?_
          obtain ⟨hi7, h⟩ := h
          refine vv_iast C (a_X1_flowUnits hY hd) hi7 rfl dX1_addFlow_42 (fun σ8 eσ8 => ?_)
          replace h := h σ8 eσ8
          refine vv_aload_n C 0 dX1_addFlow_43 rfl rfl ?_
          refine vv_dup C dX1_addFlow_44 rfl ?_
          refine vv_geti C kc_X1 (s_X1 hY hd) 2 (by decide) rfl fk_X1_30 dX1_addFlow_45 ?_
          refine vv_iconst C dX1_addFlow_48 ki_1 ?_
          refine vv_iadd C dX1_addFlow_49 ?_
          refine vv_puti C kc_X1 (s_X1 hY hd) 2 (by decide) rfl pf_X1_2 fk_X1_30 dX1_addFlow_50 (fun σ9 eσ9 => ?_)
          replace h := h σ9 eσ9
          refine vv_iconst C dX1_addFlow_53 ki_1 ?_
          exact vv_zret C (Or.inr rfl) dX1_addFlow_54 h
        · replace h := h.2 hc4
          refine vv_sub [] (L' := []) rfl ?_
          exact hJk21_0 h
set_option maxHeartbeats 2000000 in
set_option maxRecDepth 100000 in
theorem mX1_addRain {Y : vv_Y} (hY : Y.2.2.2.2 = wC) {d : Nat} (hd : is_X1 d) {a1 : Int32} {a2 : Int32} {a3 : Int32} {σ : vv_S} {post : Int32 → vv_S → Prop} (h : wX1_addRain d a1 a2 a3 σ post) : vv_MI Y yX1_addRain cX1_addRain 4 (some .boolean) 0 0 [.ref (vv_q Y d), .int a1, .int a2, .int a3] σ post := by
  refine vv_ofI (by decide) (Nat.le_of_ble_eq_true rfl) (fun X C => ?_)
  have C : VC Y X RX1 cX1_addRain 4 (some .boolean) 0 0 := C
  refine vv_sub [0, 1, 2, 3] (L' := [(0, .ref (vv_q Y d)), (1, .int a1), (2, .int a2), (3, .int a3)]) rfl ?_
  refine vv_aload_n C 0 dX1_addRain_0 rfl rfl ?_
  refine vv_geti C kc_X1 (s_X1 hY hd) 6 (by decide) rfl fk_X1_34 dX1_addRain_1 ?_
  refine vv_join (fun k =>  k → VJ Y X (va_Qi post (vv_B Y) X.2) 4 26 [] [] σ) h (fun h => ?_) (fun k26_0 hJk26_0 h => ?_)
  · refine vv_iconst C dX1_addRain_26 ki_0 ?_
    exact vv_zret C (Or.inl rfl) dX1_addRain_27 h
  · refine vv_if_lt (pc := 4) C 26 dX1_addRain_4 (by decide) (fun hc2 => ?_) (fun hc2 => ?_)
    · replace h := h.1 hc2
      refine vv_sub [] (L' := []) rfl ?_
      exact hJk26_0 h
    · replace h := h.2 hc2
      refine vv_aload_n C 0 dX1_addRain_7 rfl rfl ?_
      refine vv_geti C kc_X1 (s_X1 hY hd) 6 (by decide) rfl fk_X1_34 dX1_addRain_8 ?_
      refine vv_iconst C dX1_addRain_11 ki_4 ?_
      refine vv_icmp_ge (pc := 12) C 26 dX1_addRain_12 (by decide) (fun hc3 => ?_) (fun hc3 => ?_)
      · replace h := h.1 hc3
        refine vv_sub [] (L' := []) rfl ?_
        exact hJk26_0 h
      · replace h := h.2 hc3
        refine vv_iload_n C 1 dX1_addRain_15 rfl rfl ?_
        refine vv_iload_n C 2 dX1_addRain_16 rfl rfl ?_
        refine vv_icmp_gt (pc := 17) C 26 dX1_addRain_17 (by decide) (fun hc4 => ?_) (fun hc4 => ?_)
        · replace h := h.1 hc4
          refine vv_sub [] (L' := []) rfl ?_
          exact hJk26_0 h
        · replace h := h.2 hc4
          refine vv_iload_n C 3 dX1_addRain_20 rfl rfl ?_
          refine vv_bipush C dX1_addRain_21 kb_30 ?_
          refine vv_icmp_le (pc := 23) C 28 dX1_addRain_23 (by decide) (fun hc5 => ?_) (fun hc5 => ?_)
          · replace h := h.1 hc5
            refine vv_aload_n C 0 dX1_addRain_28 rfl rfl ?_
            refine vv_getr (r := (d + 3)) C kc_X1 (s_X1 hY hd) 3 (by decide) rfl fk_X1_18 dX1_addRain_29 ?_
            refine vv_aload_n C 0 dX1_addRain_32 rfl rfl ?_
            refine vv_geti C kc_X1 (s_X1 hY hd) 6 (by decide) rfl fk_X1_34 dX1_addRain_33 ?_
            refine vv_iload_n C 1 dX1_addRain_36 rfl rfl ?_
            obtain ⟨hi6, h⟩ := h
            refine vv_iast C (a_X1_rainFrom hY hd) hi6 rfl dX1_addRain_37 (fun σ7 eσ7 => ?_)
            replace h := h σ7 eσ7
            refine vv_aload_n C 0 dX1_addRain_38 rfl rfl ?_
            refine vv_getr (r := (d + 4)) C kc_X1 (s_X1 hY hd) 4 (by decide) rfl fk_X1_21 dX1_addRain_39 ?_
            refine vv_aload_n C 0 dX1_addRain_42 rfl rfl ?_
            refine vv_geti C kc_X1 (s_X1 hY hd) 6 (by decide) rfl fk_X1_34 dX1_addRain_43 ?_
            refine vv_iload_n C 2 dX1_addRain_46 rfl rfl ?_
            obtain ⟨hi8, h⟩ := h
            refine vv_iast C (a_X1_rainTo hY hd) hi8 rfl dX1_addRain_47 (fun σ9 eσ9 => ?_)
            replace h := h σ9 eσ9
            refine vv_aload_n C 0 dX1_addRain_48 rfl rfl ?_
            refine vv_getr (r := (d + 5)) C kc_X1 (s_X1 hY hd) 5 (by decide) rfl fk_X1_24 dX1_addRain_49 ?_
            refine vv_aload_n C 0 dX1_addRain_52 rfl rfl ?_
            refine vv_geti C kc_X1 (s_X1 hY hd) 6 (by decide) rfl fk_X1_34 dX1_addRain_53 ?_
            refine vv_iload_n C 3 dX1_addRain_56 rfl rfl ?_
            obtain ⟨hi10, h⟩ := h
            refine vv_iast C (a_X1_rainUnits hY hd) hi10 rfl dX1_addRain_57 (fun σ11 eσ11 => ?_)
            replace h := h σ11 eσ11
            refine vv_aload_n C 0 dX1_addRain_58 rfl rfl ?_
            refine vv_dup C dX1_addRain_59 rfl ?_
            refine vv_geti C kc_X1 (s_X1 hY hd) 6 (by decide) rfl fk_X1_34 dX1_addRain_60 ?_
            refine vv_iconst C dX1_addRain_63 ki_1 ?_
            refine vv_iadd C dX1_addRain_64 ?_
            refine vv_puti C kc_X1 (s_X1 hY hd) 6 (by decide) rfl pf_X1_6 fk_X1_34 dX1_addRain_65 (fun σ12 eσ12 => ?_)
            replace h := h σ12 eσ12
            refine vv_iconst C dX1_addRain_68 ki_1 ?_
            exact vv_zret C (Or.inr rfl) dX1_addRain_69 h
          · replace h := h.2 hc5
            refine vv_sub [] (L' := []) rfl ?_
            exact hJk26_0 h
set_option maxHeartbeats 2000000 in
set_option maxRecDepth 100000 in
theorem mX1_flowIn {Y : vv_Y} (hY : Y.2.2.2.2 = wC) {d : Nat} (hd : is_X1 d) {a1 : Int32} {σ : vv_S} {post : Int32 → vv_S → Prop} (h : wX1_flowIn d a1 σ post) : vv_MI Y yX1_flowIn cX1_flowIn 5 (some .int) 0 0 [.ref (vv_q Y d), .int a1] σ post := by
  refine vv_ofI (by decide) (Nat.le_of_ble_eq_true rfl) (fun X C => ?_)
  have C : VC Y X RX1 cX1_flowIn 5 (some .int) 0 0 := C
  refine vv_sub [0, 1] (L' := [(0, .ref (vv_q Y d)), (1, .int a1)]) rfl ?_
  refine vv_bipush C dX1_flowIn_0 kb_m4 ?_
  refine vv_istore_n (L' := [(2, .int (-4 : Int32)), (0, .ref (vv_q Y d)), (1, .int a1)]) C dX1_flowIn_2 rfl (by decide) rfl ?_
  refine vv_iconst C dX1_flowIn_3 ki_0 ?_
  refine vv_istore_n (L' := [(3, .int (0 : Int32)), (2, .int (-4 : Int32)), (0, .ref (vv_q Y d)), (1, .int a1)]) C dX1_flowIn_4 rfl (by decide) rfl ?_
  refine vv_iconst C dX1_flowIn_5 ki_0 ?_
  refine vv_istore (L' := [(4, .int (0 : Int32)), (3, .int (0 : Int32)), (2, .int (-4 : Int32)), (0, .ref (vv_q Y d)), (1, .int a1)]) C dX1_flowIn_6 (by decide) rfl ?_
  refine vv_join (fun k => ∀ (v1 : Int32), k v1 → VJ Y X (va_Qi post (vv_B Y) X.2) 5 67 [(3, .int v1)] [] σ) h (fun v1 h => ?_) (fun k67_1 hJk67_1 h => ?_)
  · refine vv_iload_n C 0 dX1_flowIn_67 rfl rfl ?_
    exact vv_iret C dX1_flowIn_68 h
  · obtain ⟨n6, h⟩ := h
    have hl1 : ∀ (n6 : Nat) (v3 : Int32) (v4 : Int32) (v5 : Int32), lX1_flowIn_1 σ d k67_1 a1 n6 v3 v4 v5 → VJ Y X (va_Qi post (vv_B Y) X.2) 5 8 [(0, .ref (vv_q Y d)), (1, .int a1), (2, .int v3), (3, .int v4), (4, .int v5)] [] σ := by
      clear h
      intro n6
      induction n6 with
      | zero => intro v3 v4 v5 h; exact False.elim h
      | succ n6 ih1 =>
        intro v3 v4 v5 h
        refine vv_iload C 4 dX1_flowIn_8 rfl ?_
        refine vv_aload_n C 0 dX1_flowIn_10 rfl rfl ?_
        refine vv_geti C kc_X1 (s_X1 hY hd) 2 (by decide) rfl fk_X1_30 dX1_flowIn_11 ?_
        refine vv_icmp_ge (pc := 14) C 67 dX1_flowIn_14 (by decide) (fun hc7 => ?_) (fun hc7 => ?_)
        · replace h := h.1 hc7
          refine vv_sub [3] (L' := [(3, .int v4)]) rfl ?_
          exact hJk67_1 _ h
        · replace h := h.2 hc7
          refine vv_iload C 4 dX1_flowIn_17 rfl ?_
          refine vv_iconst C dX1_flowIn_19 ki_4 ?_
          refine vv_icmp_ge (pc := 20) C 67 dX1_flowIn_20 (by decide) (fun hc8 => ?_) (fun hc8 => ?_)
          · replace h := h.1 hc8
            refine vv_sub [3] (L' := [(3, .int v4)]) rfl ?_
            exact hJk67_1 _ h
          · replace h := h.2 hc8
            refine vv_aload_n C 0 dX1_flowIn_23 rfl rfl ?_
            refine vv_getr (r := (d + 1)) C kc_X1 (s_X1 hY hd) 0 (by decide) rfl fk_X1_9 dX1_flowIn_24 ?_
            refine vv_iload C 4 dX1_flowIn_27 rfl ?_
            obtain ⟨hi9, h⟩ := h
            refine vv_iald C (a_X1_flowFrom hY hd) hi9 rfl dX1_flowIn_29 ?_
            refine vv_iload_n C 1 dX1_flowIn_30 rfl rfl ?_
            refine vv_join (fun k => ∀ (v10 : Int32) (v11 : Int32), k v10 v11 → VJ Y X (va_Qi post (vv_B Y) X.2) 5 61 [(0, .ref (vv_q Y d)), (1, .int a1), (2, .int v10), (3, .int v11), (4, .int v5)] [] σ) h (fun v10 v11 h => ?_) (fun k61_11 hJk61_11 h => ?_)
            · obtain ⟨v13, ev13⟩ : ∃ z : Int32, z = v5 + (1 : Int32) := ⟨_, rfl⟩
              replace h := h v13 ev13
              refine vv_iinc (v := v13) (L' := [(4, .int v13), (0, .ref (vv_q Y d)), (1, .int a1), (2, .int v10), (3, .int v11)]) C 4 dX1_flowIn_61 rfl ((kinc ki_1).trans ev13.symm) (by decide) rfl ?_
              refine vv_goto (pc := 64) (tgt := 8) C dX1_flowIn_64 (by decide) ?_
              refine vv_sub [1, 2, 3, 4, 0] (L' := [(0, .ref (vv_q Y d)), (1, .int a1), (2, .int v10), (3, .int v11), (4, .int v13)]) rfl ?_
              exact ih1 _ _ _ h
            · refine vv_icmp_gt (pc := 31) C 61 dX1_flowIn_31 (by decide) (fun hc14 => ?_) (fun hc14 => ?_)
              · replace h := h.1 hc14
                refine vv_sub [0, 1, 2, 3, 4] (L' := [(0, .ref (vv_q Y d)), (1, .int a1), (2, .int v3), (3, .int v4), (4, .int v5)]) rfl ?_
                exact hJk61_11 _ _ h
              · replace h := h.2 hc14
                refine vv_aload_n C 0 dX1_flowIn_34 rfl rfl ?_
                refine vv_getr (r := (d + 1)) C kc_X1 (s_X1 hY hd) 0 (by decide) rfl fk_X1_9 dX1_flowIn_35 ?_
                refine vv_iload C 4 dX1_flowIn_38 rfl ?_
                obtain ⟨hi15, h⟩ := h
                refine vv_iald C (a_X1_flowFrom hY hd) hi15 rfl dX1_flowIn_40 ?_
                refine vv_iload_n C 2 dX1_flowIn_41 rfl rfl ?_
                refine vv_icmp_lt (pc := 42) C 61 dX1_flowIn_42 (by decide) (fun hc16 => ?_) (fun hc16 => ?_)
                · replace h := h.1 hc16
                  refine vv_sub [0, 1, 2, 3, 4] (L' := [(0, .ref (vv_q Y d)), (1, .int a1), (2, .int v3), (3, .int v4), (4, .int v5)]) rfl ?_
                  exact hJk61_11 _ _ h
                · replace h := h.2 hc16
                  refine vv_aload_n C 0 dX1_flowIn_45 rfl rfl ?_
                  refine vv_getr (r := (d + 1)) C kc_X1 (s_X1 hY hd) 0 (by decide) rfl fk_X1_9 dX1_flowIn_46 ?_
                  refine vv_iload C 4 dX1_flowIn_49 rfl ?_
                  obtain ⟨hi17, h⟩ := h
                  refine vv_iald C (a_X1_flowFrom hY hd) hi17 rfl dX1_flowIn_51 ?_
                  refine vv_nm (fun v18 ev18 => ?_)
                  replace h := h v18 ev18
                  refine vv_istore_n (L' := [(2, .int v18), (0, .ref (vv_q Y d)), (1, .int a1), (3, .int v4), (4, .int v5)]) C dX1_flowIn_52 rfl (by decide) rfl ?_
                  refine vv_aload_n C 1 dX1_flowIn_53 rfl rfl ?_
                  refine vv_getr (r := (d + 2)) C kc_X1 (s_X1 hY hd) 1 (by decide) rfl fk_X1_15 dX1_flowIn_54 ?_
                  refine vv_iload C 4 dX1_flowIn_57 rfl ?_
                  obtain ⟨hi19, h⟩ := h
                  refine vv_iald C (a_X1_flowUnits hY hd) hi19 rfl dX1_flowIn_59 ?_
                  refine vv_nm (fun v20 ev20 => ?_)
                  replace h := h v20 ev20
                  refine vv_istore_n (L' := [(3, .int v20), (2, .int v18), (0, .ref (vv_q Y d)), (1, .int a1), (4, .int v5)]) C dX1_flowIn_60 rfl (by decide) rfl ?_
                  refine vv_sub [2, 3, 1, 0, 4] (L' := [(0, .ref (vv_q Y d)), (1, .int a1), (2, .int v18), (3, .int v20), (4, .int v5)]) rfl ?_
                  exact hJk61_11 _ _ h
    refine vv_sub [3, 4, 2, 1, 0] (L' := [(0, .ref (vv_q Y d)), (1, .int a1), (2, .int (-4 : Int32)), (3, .int (0 : Int32)), (4, .int (0 : Int32))]) rfl ?_
    exact hl1 n6 _ _ _ h
set_option maxHeartbeats 2000000 in
set_option maxRecDepth 100000 in
theorem mX1_rainIn {Y : vv_Y} (hY : Y.2.2.2.2 = wC) {d : Nat} (hd : is_X1 d) {a1 : Int32} {σ : vv_S} {post : Int32 → vv_S → Prop} (h : wX1_rainIn d a1 σ post) : vv_MI Y yX1_rainIn cX1_rainIn 4 (some .int) 0 0 [.ref (vv_q Y d), .int a1] σ post := by
  refine vv_ofI (by decide) (Nat.le_of_ble_eq_true rfl) (fun X C => ?_)
  have C : VC Y X RX1 cX1_rainIn 4 (some .int) 0 0 := C
  refine vv_sub [0, 1] (L' := [(0, .ref (vv_q Y d)), (1, .int a1)]) rfl ?_
  refine vv_iconst C dX1_rainIn_0 ki_0 ?_
  refine vv_istore_n (L' := [(2, .int (0 : Int32)), (0, .ref (vv_q Y d)), (1, .int a1)]) C dX1_rainIn_1 rfl (by decide) rfl ?_
  refine vv_iconst C dX1_rainIn_2 ki_0 ?_
  refine vv_istore_n (L' := [(3, .int (0 : Int32)), (2, .int (0 : Int32)), (0, .ref (vv_q Y d)), (1, .int a1)]) C dX1_rainIn_3 rfl (by decide) rfl ?_
  refine vv_join (fun k => ∀ (v1 : Int32), k v1 → VJ Y X (va_Qi post (vv_B Y) X.2) 4 52 [(2, .int v1)] [] σ) h (fun v1 h => ?_) (fun k52_1 hJk52_1 h => ?_)
  · refine vv_iload_n C 0 dX1_rainIn_52 rfl rfl ?_
    exact vv_iret C dX1_rainIn_53 h
  · obtain ⟨n5, h⟩ := h
    have hl1 : ∀ (n5 : Nat) (v3 : Int32) (v4 : Int32), lX1_rainIn_1 σ d k52_1 a1 n5 v3 v4 → VJ Y X (va_Qi post (vv_B Y) X.2) 4 4 [(0, .ref (vv_q Y d)), (1, .int a1), (2, .int v3), (3, .int v4)] [] σ := by
      clear h
      intro n5
      induction n5 with
      | zero => intro v3 v4 h; exact False.elim h
      | succ n5 ih1 =>
        intro v3 v4 h
        refine vv_iload_n C 3 dX1_rainIn_4 rfl rfl ?_
        refine vv_aload_n C 0 dX1_rainIn_5 rfl rfl ?_
        refine vv_geti C kc_X1 (s_X1 hY hd) 6 (by decide) rfl fk_X1_34 dX1_rainIn_6 ?_
        refine vv_icmp_ge (pc := 9) C 52 dX1_rainIn_9 (by decide) (fun hc6 => ?_) (fun hc6 => ?_)
        · replace h := h.1 hc6
          refine vv_sub [2] (L' := [(2, .int v3)]) rfl ?_
          exact hJk52_1 _ h
        · replace h := h.2 hc6
          refine vv_iload_n C 3 dX1_rainIn_12 rfl rfl ?_
          refine vv_iconst C dX1_rainIn_13 ki_4 ?_
          refine vv_icmp_ge (pc := 14) C 52 dX1_rainIn_14 (by decide) (fun hc7 => ?_) (fun hc7 => ?_)
          · replace h := h.1 hc7
            refine vv_sub [2] (L' := [(2, .int v3)]) rfl ?_
            exact hJk52_1 _ h
          · replace h := h.2 hc7
            refine vv_aload_n C 0 dX1_rainIn_17 rfl rfl ?_
            refine vv_getr (r := (d + 3)) C kc_X1 (s_X1 hY hd) 3 (by decide) rfl fk_X1_18 dX1_rainIn_18 ?_
            refine vv_iload_n C 3 dX1_rainIn_21 rfl rfl ?_
            obtain ⟨hi8, h⟩ := h
            refine vv_iald C (a_X1_rainFrom hY hd) hi8 rfl dX1_rainIn_22 ?_
            refine vv_iload_n C 1 dX1_rainIn_23 rfl rfl ?_
            refine vv_join (fun k => ∀ (v9 : Int32), k v9 → VJ Y X (va_Qi post (vv_B Y) X.2) 4 46 [(0, .ref (vv_q Y d)), (1, .int a1), (2, .int v9), (3, .int v4)] [] σ) h (fun v9 h => ?_) (fun k46_9 hJk46_9 h => ?_)
            · obtain ⟨v11, ev11⟩ : ∃ z : Int32, z = v4 + (1 : Int32) := ⟨_, rfl⟩
              replace h := h v11 ev11
              refine vv_iinc (v := v11) (L' := [(3, .int v11), (0, .ref (vv_q Y d)), (1, .int a1), (2, .int v9)]) C 3 dX1_rainIn_46 rfl ((kinc ki_1).trans ev11.symm) (by decide) rfl ?_
              refine vv_goto (pc := 49) (tgt := 4) C dX1_rainIn_49 (by decide) ?_
              refine vv_sub [1, 2, 3, 0] (L' := [(0, .ref (vv_q Y d)), (1, .int a1), (2, .int v9), (3, .int v11)]) rfl ?_
              exact ih1 _ _ h
            · refine vv_icmp_gt (pc := 24) C 46 dX1_rainIn_24 (by decide) (fun hc12 => ?_) (fun hc12 => ?_)
              · replace h := h.1 hc12
                refine vv_sub [0, 1, 2, 3] (L' := [(0, .ref (vv_q Y d)), (1, .int a1), (2, .int v3), (3, .int v4)]) rfl ?_
                exact hJk46_9 _ h
              · replace h := h.2 hc12
                refine vv_iload_n C 1 dX1_rainIn_27 rfl rfl ?_
                refine vv_aload_n C 0 dX1_rainIn_28 rfl rfl ?_
                refine vv_getr (r := (d + 4)) C kc_X1 (s_X1 hY hd) 4 (by decide) rfl fk_X1_21 dX1_rainIn_29 ?_
                refine vv_iload_n C 3 dX1_rainIn_32 rfl rfl ?_
                obtain ⟨hi13, h⟩ := h
                refine vv_iald C (a_X1_rainTo hY hd) hi13 rfl dX1_rainIn_33 ?_
                refine vv_icmp_gt (pc := 34) C 46 dX1_rainIn_34 (by decide) (fun hc14 => ?_) (fun hc14 => ?_)
                · replace h := h.1 hc14
                  refine vv_sub [0, 1, 2, 3] (L' := [(0, .ref (vv_q Y d)), (1, .int a1), (2, .int v3), (3, .int v4)]) rfl ?_
                  exact hJk46_9 _ h
                · replace h := h.2 hc14
                  refine vv_iload_n C 2 dX1_rainIn_37 rfl rfl ?_
                  refine vv_aload_n C 0 dX1_rainIn_38 rfl rfl ?_
                  refine vv_getr (r := (d + 5)) C kc_X1 (s_X1 hY hd) 5 (by decide) rfl fk_X1_24 dX1_rainIn_39 ?_
                  refine vv_iload_n C 3 dX1_rainIn_42 rfl rfl ?_
                  obtain ⟨hi15, h⟩ := h
                  refine vv_iald C (a_X1_rainUnits hY hd) hi15 rfl dX1_rainIn_43 ?_
                  refine vv_iadd C dX1_rainIn_44 ?_
                  refine vv_nm (fun v16 ev16 => ?_)
                  replace h := h v16 ev16
                  refine vv_istore_n (L' := [(2, .int v16), (0, .ref (vv_q Y d)), (1, .int a1), (3, .int v4)]) C dX1_rainIn_45 rfl (by decide) rfl ?_
                  refine vv_sub [1, 2, 0, 3] (L' := [(0, .ref (vv_q Y d)), (1, .int a1), (2, .int v16), (3, .int v4)]) rfl ?_
                  exact hJk46_9 _ h
    refine vv_sub [2, 3, 1, 0] (L' := [(0, .ref (vv_q Y d)), (1, .int a1), (2, .int (0 : Int32)), (3, .int (0 : Int32))]) rfl ?_
    exact hl1 n5 _ _ h
set_option maxHeartbeats 2000000 in
set_option maxRecDepth 100000 in
theorem mX1_settle {Y : vv_Y} (hY : Y.2.2.2.2 = wC) {d : Nat} (hd : is_X1 d) {σ : vv_S} {post : vv_S → Prop} (h : wX1_settle d σ post) : vv_MV Y yX1_settle cX1_settle 2 none 1 24 [.ref (vv_q Y d)] σ post := by
  refine vv_ofV (by decide) (Nat.le_of_ble_eq_true rfl) (fun X C => ?_)
  have C : VC Y X RX1 cX1_settle 2 none 1 24 := C
  refine vv_sub [0] (L' := [(0, .ref (vv_q Y d))]) rfl ?_
  refine vv_iconst C dX1_settle_0 ki_0 ?_
  refine vv_istore_n (L' := [(1, .int (0 : Int32)), (0, .ref (vv_q Y d))]) C dX1_settle_1 rfl (by decide) rfl ?_
  obtain ⟨n3, h⟩ := h
  have hl1 : ∀ (n3 : Nat) (v1 : Int32) (σ2 : vv_S), lX1_settle_1 post d n3 v1 σ2 → VJ Y X (va_Qv post (vv_B Y) X.2) 2 2 [(0, .ref (vv_q Y d)), (1, .int v1)] [] σ2 := by
    clear h
    intro n3
    induction n3 with
    | zero => intro v1 σ2 h; exact False.elim h
    | succ n3 ih1 =>
      intro v1 σ2 h
      refine vv_iload_n C 1 dX1_settle_2 rfl rfl ?_
      refine vv_bipush C dX1_settle_3 kb_100 ?_
      refine vv_icmp_gt (pc := 5) C 31 dX1_settle_5 (by decide) (fun hc4 => ?_) (fun hc4 => ?_)
      · replace h := h.1 hc4
        exact vv_vret C dX1_settle_31 h
      · replace h := h.2 hc4
        refine vv_aload_n C 0 dX1_settle_8 rfl rfl ?_
        refine vv_getr (r := (d + 6)) C kc_X1 (s_X1 hY hd) 7 (by decide) rfl fk_X1_27 dX1_settle_9 ?_
        refine vv_iload_n C 1 dX1_settle_12 rfl rfl ?_
        refine vv_aload_n C 0 dX1_settle_13 rfl rfl ?_
        refine vv_iload_n C 1 dX1_settle_14 rfl rfl ?_
        refine vv_callI (rest := [.int v1, .ref (vv_q Y (d + 6))]) C yk_X1_flowIn vk_X1_flowIn lk_X1_37 kc_X1.1 (s_X1 hY hd) dX1_settle_15 (mX1_flowIn hY hd h) rfl rfl ⟨Nat.le_of_ble_eq_true rfl, Nat.le_of_ble_eq_true rfl⟩ (Nat.le_of_ble_eq_true rfl) (fun r6 σ5 h => ?_)
        refine vv_aload_n C 0 dX1_settle_18 rfl rfl ?_
        refine vv_iload_n C 1 dX1_settle_19 rfl rfl ?_
        refine vv_callI (rest := [.int r6, .int v1, .ref (vv_q Y (d + 6))]) C yk_X1_rainIn vk_X1_rainIn lk_X1_41 kc_X1.1 (s_X1 hY hd) dX1_settle_20 (mX1_rainIn hY hd h) rfl rfl ⟨Nat.le_of_ble_eq_true rfl, Nat.le_of_ble_eq_true rfl⟩ (Nat.le_of_ble_eq_true rfl) (fun r8 σ7 h => ?_)
        refine vv_iadd C dX1_settle_23 ?_
        obtain ⟨hi9, h⟩ := h
        refine vv_iast C (a_X1_byMinute hY hd) hi9 rfl dX1_settle_24 (fun σ10 eσ10 => ?_)
        replace h := h σ10 eσ10
        obtain ⟨v11, ev11⟩ : ∃ z : Int32, z = v1 + (1 : Int32) := ⟨_, rfl⟩
        replace h := h v11 ev11
        refine vv_iinc (v := v11) (L' := [(1, .int v11), (0, .ref (vv_q Y d))]) C 1 dX1_settle_25 rfl ((kinc ki_1).trans ev11.symm) (by decide) rfl ?_
        refine vv_goto (pc := 28) (tgt := 2) C dX1_settle_28 (by decide) ?_
        refine vv_sub [1, 0] (L' := [(0, .ref (vv_q Y d)), (1, .int v11)]) rfl ?_
        exact ih1 _ _ h
  refine vv_sub [1, 0] (L' := [(0, .ref (vv_q Y d)), (1, .int (0 : Int32))]) rfl ?_
  exact hl1 n3 _ _ h
set_option maxHeartbeats 2000000 in
set_option maxRecDepth 100000 in
theorem mX2_clear {Y : vv_Y} (hY : Y.2.2.2.2 = wC) {d : Nat} (hd : is_X2 d) {σ : vv_S} {post : vv_S → Prop} (h : wX2_clear d σ post) : vv_MV Y yX2_clear cX2_clear 1 none 0 0 [.ref (vv_q Y d)] σ post := by
  refine vv_ofV (by decide) (Nat.le_of_ble_eq_true rfl) (fun X C => ?_)
  have C : VC Y X RX2 cX2_clear 1 none 0 0 := C
  refine vv_sub [0] (L' := [(0, .ref (vv_q Y d))]) rfl ?_
  refine vv_aload_n C 0 dX2_clear_0 rfl rfl ?_
  refine vv_iconst C dX2_clear_1 ki_0 ?_
  refine vv_puti C kc_X2 (s_X2 hY hd) 1 (by decide) rfl pf_X2_1 fk_X2_26 dX2_clear_2 (fun σ1 eσ1 => ?_)
  replace h := h σ1 eσ1
  refine vv_aload_n C 0 dX2_clear_5 rfl rfl ?_
  refine vv_iconst C dX2_clear_6 ki_0 ?_
  refine vv_puti C kc_X2 (s_X2 hY hd) 4 (by decide) rfl pf_X2_4 fk_X2_30 dX2_clear_7 (fun σ2 eσ2 => ?_)
  replace h := h σ2 eσ2
  exact vv_vret C dX2_clear_10 h
set_option maxHeartbeats 2000000 in
set_option maxRecDepth 100000 in
theorem mX7_numberAt {Y : vv_Y} (hY : Y.2.2.2.2 = wC) {a1 : Int32} {σ : vv_S} {post : Int32 → vv_S → Prop} (h : wX7_numberAt a1 σ post) : vv_MI Y yX7_numberAt cX7_numberAt 2 (some .int) 0 0 [.ref (vv_q Y 1), .int a1] σ post := by
  refine vv_ofI (by decide) (Nat.le_of_ble_eq_true rfl) (fun X C => ?_)
  have C : VC Y X RX7 cX7_numberAt 2 (some .int) 0 0 := C
  refine vv_sub [0, 1] (L' := [(0, .ref (vv_q Y 1)), (1, .int a1)]) rfl ?_
  refine vv_iload_n C 1 dX7_numberAt_0 rfl rfl ?_
  refine vv_join (fun k => ∀ (v1 : Int32), k v1 → VJ Y X (va_Qi post (vv_B Y) X.2) 2 27 [] [.int v1] σ) h (fun v1 h => ?_) (fun k27_1 hJk27_1 h => ?_)
  · exact vv_iret C dX7_numberAt_27 h
  · refine vv_join (fun k =>  k → VJ Y X (va_Qi post (vv_B Y) X.2) 2 26 [] [] σ) h (fun h => ?_) (fun k26_2 hJk26_2 h => ?_)
    · refine vv_iconst C dX7_numberAt_26 ki_0 ?_
      refine vv_sub [] (L' := []) rfl ?_
      exact hJk27_1 _ h
    · refine vv_if_lt (pc := 1) C 26 dX7_numberAt_1 (by decide) (fun hc4 => ?_) (fun hc4 => ?_)
      · replace h := h.1 hc4
        refine vv_sub [] (L' := []) rfl ?_
        exact hJk26_2 h
      · replace h := h.2 hc4
        refine vv_iload_n C 1 dX7_numberAt_4 rfl rfl ?_
        refine vv_aload_n C 0 dX7_numberAt_5 rfl rfl ?_
        refine vv_geti C kc_X7 (s_X7 hY) 3 (by decide) rfl fk_X7_22 dX7_numberAt_6 ?_
        refine vv_icmp_ge (pc := 9) C 26 dX7_numberAt_9 (by decide) (fun hc5 => ?_) (fun hc5 => ?_)
        · replace h := h.1 hc5
          refine vv_sub [] (L' := []) rfl ?_
          exact hJk26_2 h
        · replace h := h.2 hc5
          refine vv_iload_n C 1 dX7_numberAt_12 rfl rfl ?_
          refine vv_iconst C dX7_numberAt_13 ki_4 ?_
          refine vv_icmp_ge (pc := 14) C 26 dX7_numberAt_14 (by decide) (fun hc6 => ?_) (fun hc6 => ?_)
          · replace h := h.1 hc6
            refine vv_sub [] (L' := []) rfl ?_
            exact hJk26_2 h
          · replace h := h.2 hc6
            refine vv_aload_n C 0 dX7_numberAt_17 rfl rfl ?_
            refine vv_getr (r := 3) C kc_X7 (s_X7 hY) 2 (by decide) rfl fk_X7_15 dX7_numberAt_18 ?_
            refine vv_iload_n C 1 dX7_numberAt_21 rfl rfl ?_
            obtain ⟨hi7, h⟩ := h
            refine vv_iald C (a_X7_numbers hY) hi7 rfl dX7_numberAt_22 ?_
            refine vv_goto (pc := 23) (tgt := 27) C dX7_numberAt_23 (by decide) ?_
            refine vv_sub [] (L' := []) rfl ?_
            exact hJk27_1 _ h
set_option maxHeartbeats 2000000 in
set_option maxRecDepth 100000 in
theorem mX2_addChild {Y : vv_Y} (hY : Y.2.2.2.2 = wC) {d : Nat} (hd : is_X2 d) {σ : vv_S} {post : Int32 → vv_S → Prop} (h : wX2_addChild d σ post) : vv_MI Y yX2_addChild cX2_addChild 3 (some .boolean) 1 21 [.ref (vv_q Y d), .ref (vv_q Y 1)] σ post := by
  refine vv_ofI (by decide) (Nat.le_of_ble_eq_true rfl) (fun X C => ?_)
  have C : VC Y X RX2 cX2_addChild 3 (some .boolean) 1 21 := C
  refine vv_sub [0, 1] (L' := [(0, .ref (vv_q Y d)), (1, .ref (vv_q Y 1))]) rfl ?_
  refine vv_aload_n C 0 dX2_addChild_0 rfl rfl ?_
  refine vv_geti C kc_X2 (s_X2 hY hd) 1 (by decide) rfl fk_X2_26 dX2_addChild_1 ?_
  refine vv_join (fun k =>  k → VJ Y X (va_Qi post (vv_B Y) X.2) 3 15 [] [] σ) h (fun h => ?_) (fun k15_0 hJk15_0 h => ?_)
  · refine vv_iconst C dX2_addChild_15 ki_0 ?_
    exact vv_zret C (Or.inl rfl) dX2_addChild_16 h
  · refine vv_if_lt (pc := 4) C 15 dX2_addChild_4 (by decide) (fun hc2 => ?_) (fun hc2 => ?_)
    · replace h := h.1 hc2
      refine vv_sub [] (L' := []) rfl ?_
      exact hJk15_0 h
    · replace h := h.2 hc2
      refine vv_aload_n C 0 dX2_addChild_7 rfl rfl ?_
      refine vv_geti C kc_X2 (s_X2 hY hd) 1 (by decide) rfl fk_X2_26 dX2_addChild_8 ?_
      refine vv_iconst C dX2_addChild_11 ki_4 ?_
      refine vv_icmp_lt (pc := 12) C 17 dX2_addChild_12 (by decide) (fun hc3 => ?_) (fun hc3 => ?_)
      · replace h := h.1 hc3
        refine vv_iconst C dX2_addChild_17 ki_0 ?_
        refine vv_istore_n (L' := [(2, .int (0 : Int32)), (0, .ref (vv_q Y d)), (1, .ref (vv_q Y 1))]) C dX2_addChild_18 rfl (by decide) rfl ?_
        refine vv_join (fun k => ∀ (σ4 : vv_S), k σ4 → VJ Y X (va_Qi post (vv_B Y) X.2) 3 58 [(0, .ref (vv_q Y d))] [] σ4) h (fun σ4 h => ?_) (fun k58_4 hJk58_4 h => ?_)
        · refine vv_aload_n C 0 dX2_addChild_58 rfl rfl ?_
          refine vv_dup C dX2_addChild_59 rfl ?_
          refine vv_geti C kc_X2 (s_X2 hY hd) 1 (by decide) rfl fk_X2_26 dX2_addChild_60 ?_
          refine vv_iconst C dX2_addChild_63 ki_1 ?_
          refine vv_iadd C dX2_addChild_64 ?_
          refine vv_puti C kc_X2 (s_X2 hY hd) 1 (by decide) rfl pf_X2_1 fk_X2_26 dX2_addChild_65 (fun σ6 eσ6 => ?_)
          replace h := h σ6 eσ6
          refine vv_iconst C dX2_addChild_68 ki_1 ?_
          exact vv_zret C (Or.inr rfl) dX2_addChild_69 h
        · obtain ⟨n9, h⟩ := h
          have hl1 : ∀ (n9 : Nat) (v7 : Int32) (σ8 : vv_S), lX2_addChild_1 k58_4 d post n9 v7 σ8 → VJ Y X (va_Qi post (vv_B Y) X.2) 3 19 [(0, .ref (vv_q Y d)), (1, .ref (vv_q Y 1)), (2, .int v7)] [] σ8 := by
            clear h
            intro n9
            induction n9 with
            | zero => intro v7 σ8 h; exact False.elim h
            | succ n9 ih1 =>
              intro v7 σ8 h
              refine vv_iload_n C 2 dX2_addChild_19 rfl rfl ?_
              refine vv_iconst C dX2_addChild_20 ki_4 ?_
              refine vv_icmp_ge (pc := 21) C 58 dX2_addChild_21 (by decide) (fun hc10 => ?_) (fun hc10 => ?_)
              · replace h := h.1 hc10
                refine vv_sub [0] (L' := [(0, .ref (vv_q Y d))]) rfl ?_
                exact hJk58_4 _ h
              · replace h := h.2 hc10
                refine vv_aload_n C 1 dX2_addChild_24 rfl rfl ?_
                refine vv_iload_n C 2 dX2_addChild_25 rfl rfl ?_
                refine vv_callI (rest := []) C yk_X7_numberAt vk_X7_numberAt lk_X2_33 kc_X7.1 (s_X7 hY) dX2_addChild_26 (mX7_numberAt hY h) rfl rfl ⟨Nat.le_of_ble_eq_true rfl, Nat.le_of_ble_eq_true rfl⟩ (Nat.le_of_ble_eq_true rfl) (fun r12 σ11 h => ?_)
                refine vv_bipush C dX2_addChild_29 kb_9 ?_
                refine vv_icmp_le (pc := 31) C 36 dX2_addChild_31 (by decide) (fun hc13 => ?_) (fun hc13 => ?_)
                · replace h := h.1 hc13
                  refine vv_aload_n C 0 dX2_addChild_36 rfl rfl ?_
                  refine vv_getr (r := (d + 1)) C kc_X2 (s_X2 hY hd) 0 (by decide) rfl fk_X2_11 dX2_addChild_37 ?_
                  refine vv_aload_n C 0 dX2_addChild_40 rfl rfl ?_
                  refine vv_geti C kc_X2 (s_X2 hY hd) 1 (by decide) rfl fk_X2_26 dX2_addChild_41 ?_
                  obtain ⟨hi14, h⟩ := h
                  refine vv_aaldA C (a_X2_lays hY hd) hi14 dX2_addChild_44 ?_
                  refine vv_iload_n C 2 dX2_addChild_45 rfl rfl ?_
                  refine vv_aload_n C 1 dX2_addChild_46 rfl rfl ?_
                  refine vv_iload_n C 2 dX2_addChild_47 rfl rfl ?_
                  refine vv_callI (rest := [.int v7, .ref (vv_q Y (d + 2 + 1 * ((σ11 d 1)).toNatClampNeg))]) C yk_X7_numberAt vk_X7_numberAt lk_X2_33 kc_X7.1 (s_X7 hY) dX2_addChild_48 (mX7_numberAt hY h) rfl rfl ⟨Nat.le_of_ble_eq_true rfl, Nat.le_of_ble_eq_true rfl⟩ (Nat.le_of_ble_eq_true rfl) (fun r16 σ15 h => ?_)
                  obtain ⟨hi17, h⟩ := h
                  refine vv_iast C (r_X2_lays hY hd hi14) hi17 rfl dX2_addChild_51 (fun σ18 eσ18 => ?_)
                  replace h := h σ18 eσ18
                  obtain ⟨v19, ev19⟩ : ∃ z : Int32, z = v7 + (1 : Int32) := ⟨_, rfl⟩
                  replace h := h v19 ev19
                  refine vv_iinc (v := v19) (L' := [(2, .int v19), (0, .ref (vv_q Y d)), (1, .ref (vv_q Y 1))]) C 2 dX2_addChild_52 rfl ((kinc ki_1).trans ev19.symm) (by decide) rfl ?_
                  refine vv_goto (pc := 55) (tgt := 19) C dX2_addChild_55 (by decide) ?_
                  refine vv_sub [1, 2, 0] (L' := [(0, .ref (vv_q Y d)), (1, .ref (vv_q Y 1)), (2, .int v19)]) rfl ?_
                  exact ih1 _ _ h
                · replace h := h.2 hc13
                  refine vv_iconst C dX2_addChild_34 ki_0 ?_
                  exact vv_zret C (Or.inl rfl) dX2_addChild_35 h
          refine vv_sub [1, 2, 0] (L' := [(0, .ref (vv_q Y d)), (1, .ref (vv_q Y 1)), (2, .int (0 : Int32))]) rfl ?_
          exact hl1 n9 _ _ h
      · replace h := h.2 hc3
        refine vv_sub [] (L' := []) rfl ?_
        exact hJk15_0 h
set_option maxHeartbeats 2000000 in
set_option maxRecDepth 100000 in
theorem mX8_isWithin {Y : vv_Y} (hY : Y.2.2.2.2 = wC) {a1 : Int32} {a2 : Int32} {a3 : Int32} {σ : vv_S} {post : Int32 → vv_S → Prop} (h : wX8_isWithin a1 a2 a3 σ post) : vv_MI Y yX8_isWithin cX8_isWithin 3 (some .boolean) 0 0 [.int a1, .int a2, .int a3] σ post := by
  refine vv_ofI (by decide) (Nat.le_of_ble_eq_true rfl) (fun X C => ?_)
  have C : VC Y X RX8 cX8_isWithin 3 (some .boolean) 0 0 := C
  refine vv_sub [0, 1, 2] (L' := [(0, .int a1), (1, .int a2), (2, .int a3)]) rfl ?_
  refine vv_iload_n C 0 dX8_isWithin_0 rfl rfl ?_
  refine vv_iload_n C 1 dX8_isWithin_1 rfl rfl ?_
  refine vv_join (fun k => ∀ (v1 : Int32), k v1 → VJ Y X (va_Qi post (vv_B Y) X.2) 3 15 [] [.int v1] σ) h (fun v1 h => ?_) (fun k15_1 hJk15_1 h => ?_)
  · exact vv_zret C h.1 dX8_isWithin_15 h.2
  · refine vv_join (fun k =>  k → VJ Y X (va_Qi post (vv_B Y) X.2) 3 14 [] [] σ) h (fun h => ?_) (fun k14_2 hJk14_2 h => ?_)
    · refine vv_iconst C dX8_isWithin_14 ki_0 ?_
      refine vv_sub [] (L' := []) rfl ?_
      exact hJk15_1 _ h
    · refine vv_icmp_lt (pc := 2) C 14 dX8_isWithin_2 (by decide) (fun hc4 => ?_) (fun hc4 => ?_)
      · replace h := h.1 hc4
        refine vv_sub [] (L' := []) rfl ?_
        exact hJk14_2 h
      · replace h := h.2 hc4
        refine vv_iload_n C 0 dX8_isWithin_5 rfl rfl ?_
        refine vv_iload_n C 2 dX8_isWithin_6 rfl rfl ?_
        refine vv_icmp_gt (pc := 7) C 14 dX8_isWithin_7 (by decide) (fun hc5 => ?_) (fun hc5 => ?_)
        · replace h := h.1 hc5
          refine vv_sub [] (L' := []) rfl ?_
          exact hJk14_2 h
        · replace h := h.2 hc5
          refine vv_iconst C dX8_isWithin_10 ki_1 ?_
          refine vv_goto (pc := 11) (tgt := 15) C dX8_isWithin_11 (by decide) ?_
          refine vv_sub [] (L' := []) rfl ?_
          exact hJk15_1 _ h
set_option maxHeartbeats 2000000 in
set_option maxRecDepth 100000 in
theorem mX8_isStuff {Y : vv_Y} (hY : Y.2.2.2.2 = wC) {a1 : Int32} {σ : vv_S} {post : Int32 → vv_S → Prop} (h : wX8_isStuff a1 σ post) : vv_MI Y yX8_isStuff cX8_isStuff 1 (some .boolean) 1 22 [.int a1] σ post := by
  refine vv_ofI (by decide) (Nat.le_of_ble_eq_true rfl) (fun X C => ?_)
  have C : VC Y X RX8 cX8_isStuff 1 (some .boolean) 1 22 := C
  refine vv_sub [0] (L' := [(0, .int a1)]) rfl ?_
  refine vv_iload_n C 0 dX8_isStuff_0 rfl rfl ?_
  refine vv_iconst C dX8_isStuff_1 ki_0 ?_
  refine vv_iconst C dX8_isStuff_2 ki_3 ?_
  refine vv_callS (rest := []) C yk_X8_isWithin sk_X8_isWithin lk_X8_92 dX8_isStuff_3 (mX8_isWithin hY h) rfl rfl ⟨Nat.le_of_ble_eq_true rfl, Nat.le_of_ble_eq_true rfl⟩ (Nat.le_of_ble_eq_true rfl) (fun r2 σ1 h => ?_)
  exact vv_zret C h.1 dX8_isStuff_6 h.2
set_option maxHeartbeats 2000000 in
set_option maxRecDepth 100000 in
theorem mX2_addJob {Y : vv_Y} (hY : Y.2.2.2.2 = wC) {d : Nat} (hd : is_X2 d) {a1 : Int32} {a2 : Int32} {σ : vv_S} {post : Int32 → vv_S → Prop} (h : wX2_addJob d a1 a2 σ post) : vv_MI Y yX2_addJob cX2_addJob 3 (some .boolean) 2 42 [.ref (vv_q Y d), .int a1, .int a2] σ post := by
  refine vv_ofI (by decide) (Nat.le_of_ble_eq_true rfl) (fun X C => ?_)
  have C : VC Y X RX2 cX2_addJob 3 (some .boolean) 2 42 := C
  refine vv_sub [0, 1, 2] (L' := [(0, .ref (vv_q Y d)), (1, .int a1), (2, .int a2)]) rfl ?_
  refine vv_aload_n C 0 dX2_addJob_0 rfl rfl ?_
  refine vv_geti C kc_X2 (s_X2 hY hd) 4 (by decide) rfl fk_X2_30 dX2_addJob_1 ?_
  refine vv_join (fun k => ∀ (σ1 : vv_S), k σ1 → VJ Y X (va_Qi post (vv_B Y) X.2) 3 32 [] [] σ1) h (fun σ1 h => ?_) (fun k32_1 hJk32_1 h => ?_)
  · refine vv_iconst C dX2_addJob_32 ki_0 ?_
    exact vv_zret C (Or.inl rfl) dX2_addJob_33 h
  · refine vv_if_lt (pc := 4) C 32 dX2_addJob_4 (by decide) (fun hc3 => ?_) (fun hc3 => ?_)
    · replace h := h.1 hc3
      refine vv_sub [] (L' := []) rfl ?_
      exact hJk32_1 _ h
    · replace h := h.2 hc3
      refine vv_aload_n C 0 dX2_addJob_7 rfl rfl ?_
      refine vv_geti C kc_X2 (s_X2 hY hd) 4 (by decide) rfl fk_X2_30 dX2_addJob_8 ?_
      refine vv_iconst C dX2_addJob_11 ki_5 ?_
      refine vv_icmp_ge (pc := 12) C 32 dX2_addJob_12 (by decide) (fun hc4 => ?_) (fun hc4 => ?_)
      · replace h := h.1 hc4
        refine vv_sub [] (L' := []) rfl ?_
        exact hJk32_1 _ h
      · replace h := h.2 hc4
        refine vv_iload_n C 1 dX2_addJob_15 rfl rfl ?_
        refine vv_callSN (rest := []) C yk_X8_isStuff sk_X8_isStuff lk_X2_39 dX2_addJob_16 (mX8_isStuff hY h) rfl rfl ⟨Nat.le_of_ble_eq_true rfl, Nat.le_of_ble_eq_true rfl⟩ (Nat.le_of_ble_eq_true rfl) (fun r6 σ5 h => ?_)
        refine vv_if_eq (pc := 19) C 32 dX2_addJob_19 (by decide) (fun hc7 => ?_) (fun hc7 => ?_)
        · replace h := h.1 hc7
          refine vv_sub [] (L' := []) rfl ?_
          exact hJk32_1 _ h
        · replace h := h.2 hc7
          refine vv_iload_n C 2 dX2_addJob_22 rfl rfl ?_
          refine vv_iconst C dX2_addJob_23 ki_1 ?_
          refine vv_bipush C dX2_addJob_24 kb_30 ?_
          refine vv_callSN (rest := []) C yk_X8_isWithin sk_X8_isWithin lk_X2_43 dX2_addJob_26 (mX8_isWithin hY h) rfl rfl ⟨Nat.le_of_ble_eq_true rfl, Nat.le_of_ble_eq_true rfl⟩ (Nat.le_of_ble_eq_true rfl) (fun r9 σ8 h => ?_)
          refine vv_if_ne (pc := 29) C 34 dX2_addJob_29 (by decide) (fun hc10 => ?_) (fun hc10 => ?_)
          · replace h := h.1 hc10
            refine vv_aload_n C 0 dX2_addJob_34 rfl rfl ?_
            refine vv_getr (r := (d + 6)) C kc_X2 (s_X2 hY hd) 2 (by decide) rfl fk_X2_16 dX2_addJob_35 ?_
            refine vv_aload_n C 0 dX2_addJob_38 rfl rfl ?_
            refine vv_geti C kc_X2 (s_X2 hY hd) 4 (by decide) rfl fk_X2_30 dX2_addJob_39 ?_
            refine vv_iload_n C 1 dX2_addJob_42 rfl rfl ?_
            obtain ⟨hi11, h⟩ := h
            refine vv_iast C (a_X2_jobStuff hY hd) hi11 rfl dX2_addJob_43 (fun σ12 eσ12 => ?_)
            replace h := h σ12 eσ12
            refine vv_aload_n C 0 dX2_addJob_44 rfl rfl ?_
            refine vv_getr (r := (d + 7)) C kc_X2 (s_X2 hY hd) 3 (by decide) rfl fk_X2_20 dX2_addJob_45 ?_
            refine vv_aload_n C 0 dX2_addJob_48 rfl rfl ?_
            refine vv_geti C kc_X2 (s_X2 hY hd) 4 (by decide) rfl fk_X2_30 dX2_addJob_49 ?_
            refine vv_iload_n C 2 dX2_addJob_52 rfl rfl ?_
            obtain ⟨hi13, h⟩ := h
            refine vv_iast C (a_X2_jobInches hY hd) hi13 rfl dX2_addJob_53 (fun σ14 eσ14 => ?_)
            replace h := h σ14 eσ14
            refine vv_aload_n C 0 dX2_addJob_54 rfl rfl ?_
            refine vv_dup C dX2_addJob_55 rfl ?_
            refine vv_geti C kc_X2 (s_X2 hY hd) 4 (by decide) rfl fk_X2_30 dX2_addJob_56 ?_
            refine vv_iconst C dX2_addJob_59 ki_1 ?_
            refine vv_iadd C dX2_addJob_60 ?_
            refine vv_puti C kc_X2 (s_X2 hY hd) 4 (by decide) rfl pf_X2_4 fk_X2_30 dX2_addJob_61 (fun σ15 eσ15 => ?_)
            replace h := h σ15 eσ15
            refine vv_iconst C dX2_addJob_64 ki_1 ?_
            exact vv_zret C (Or.inr rfl) dX2_addJob_65 h
          · replace h := h.2 hc10
            refine vv_sub [] (L' := []) rfl ?_
            exact hJk32_1 _ h
set_option maxHeartbeats 2000000 in
set_option maxRecDepth 100000 in
theorem mX2_childCount {Y : vv_Y} (hY : Y.2.2.2.2 = wC) {d : Nat} (hd : is_X2 d) {σ : vv_S} {post : Int32 → vv_S → Prop} (h : wX2_childCount d σ post) : vv_MI Y yX2_childCount cX2_childCount 1 (some .int) 0 0 [.ref (vv_q Y d)] σ post := by
  refine vv_ofI (by decide) (Nat.le_of_ble_eq_true rfl) (fun X C => ?_)
  have C : VC Y X RX2 cX2_childCount 1 (some .int) 0 0 := C
  refine vv_sub [0] (L' := [(0, .ref (vv_q Y d))]) rfl ?_
  refine vv_aload_n C 0 dX2_childCount_0 rfl rfl ?_
  refine vv_geti C kc_X2 (s_X2 hY hd) 1 (by decide) rfl fk_X2_26 dX2_childCount_1 ?_
  exact vv_iret C dX2_childCount_4 h
set_option maxHeartbeats 2000000 in
set_option maxRecDepth 100000 in
theorem mX2_jobCount {Y : vv_Y} (hY : Y.2.2.2.2 = wC) {d : Nat} (hd : is_X2 d) {σ : vv_S} {post : Int32 → vv_S → Prop} (h : wX2_jobCount d σ post) : vv_MI Y yX2_jobCount cX2_jobCount 1 (some .int) 0 0 [.ref (vv_q Y d)] σ post := by
  refine vv_ofI (by decide) (Nat.le_of_ble_eq_true rfl) (fun X C => ?_)
  have C : VC Y X RX2 cX2_jobCount 1 (some .int) 0 0 := C
  refine vv_sub [0] (L' := [(0, .ref (vv_q Y d))]) rfl ?_
  refine vv_aload_n C 0 dX2_jobCount_0 rfl rfl ?_
  refine vv_geti C kc_X2 (s_X2 hY hd) 4 (by decide) rfl fk_X2_30 dX2_jobCount_1 ?_
  exact vv_iret C dX2_jobCount_4 h
set_option maxHeartbeats 2000000 in
set_option maxRecDepth 100000 in
theorem mX2_wayCount {Y : vv_Y} (hY : Y.2.2.2.2 = wC) {d : Nat} (hd : is_X2 d) {σ : vv_S} {post : Int32 → vv_S → Prop} (h : wX2_wayCount d σ post) : vv_MI Y yX2_wayCount cX2_wayCount 3 (some .int) 0 0 [.ref (vv_q Y d)] σ post := by
  refine vv_ofI (by decide) (Nat.le_of_ble_eq_true rfl) (fun X C => ?_)
  have C : VC Y X RX2 cX2_wayCount 3 (some .int) 0 0 := C
  refine vv_sub [0] (L' := [(0, .ref (vv_q Y d))]) rfl ?_
  refine vv_iconst C dX2_wayCount_0 ki_1 ?_
  refine vv_istore_n (L' := [(1, .int (1 : Int32)), (0, .ref (vv_q Y d))]) C dX2_wayCount_1 rfl (by decide) rfl ?_
  refine vv_iconst C dX2_wayCount_2 ki_0 ?_
  refine vv_istore_n (L' := [(2, .int (0 : Int32)), (1, .int (1 : Int32)), (0, .ref (vv_q Y d))]) C dX2_wayCount_3 rfl (by decide) rfl ?_
  obtain ⟨n3, h⟩ := h
  have hl1 : ∀ (n3 : Nat) (v1 : Int32) (v2 : Int32), lX2_wayCount_1 σ d post n3 v1 v2 → VJ Y X (va_Qi post (vv_B Y) X.2) 3 4 [(0, .ref (vv_q Y d)), (1, .int v1), (2, .int v2)] [] σ := by
    clear h
    intro n3
    induction n3 with
    | zero => intro v1 v2 h; exact False.elim h
    | succ n3 ih1 =>
      intro v1 v2 h
      refine vv_iload_n C 2 dX2_wayCount_4 rfl rfl ?_
      refine vv_aload_n C 0 dX2_wayCount_5 rfl rfl ?_
      refine vv_geti C kc_X2 (s_X2 hY hd) 4 (by decide) rfl fk_X2_30 dX2_wayCount_6 ?_
      refine vv_icmp_ge (pc := 9) C 25 dX2_wayCount_9 (by decide) (fun hc4 => ?_) (fun hc4 => ?_)
      · replace h := h.1 hc4
        refine vv_iload_n C 1 dX2_wayCount_25 rfl rfl ?_
        exact vv_iret C dX2_wayCount_26 h
      · replace h := h.2 hc4
        refine vv_iload_n C 1 dX2_wayCount_12 rfl rfl ?_
        refine vv_aload_n C 0 dX2_wayCount_13 rfl rfl ?_
        refine vv_geti C kc_X2 (s_X2 hY hd) 1 (by decide) rfl fk_X2_26 dX2_wayCount_14 ?_
        refine vv_imul C dX2_wayCount_17 ?_
        refine vv_nm (fun v5 ev5 => ?_)
        replace h := h v5 ev5
        refine vv_istore_n (L' := [(1, .int v5), (0, .ref (vv_q Y d)), (2, .int v2)]) C dX2_wayCount_18 rfl (by decide) rfl ?_
        obtain ⟨v6, ev6⟩ : ∃ z : Int32, z = v2 + (1 : Int32) := ⟨_, rfl⟩
        replace h := h v6 ev6
        refine vv_iinc (v := v6) (L' := [(2, .int v6), (1, .int v5), (0, .ref (vv_q Y d))]) C 2 dX2_wayCount_19 rfl ((kinc ki_1).trans ev6.symm) (by decide) rfl ?_
        refine vv_goto (pc := 22) (tgt := 4) C dX2_wayCount_22 (by decide) ?_
        refine vv_sub [2, 1, 0] (L' := [(0, .ref (vv_q Y d)), (1, .int v5), (2, .int v6)]) rfl ?_
        exact ih1 _ _ h
  refine vv_sub [2, 1, 0] (L' := [(0, .ref (vv_q Y d)), (1, .int (1 : Int32)), (2, .int (0 : Int32))]) rfl ?_
  exact hl1 n3 _ _ h
set_option maxHeartbeats 2000000 in
set_option maxRecDepth 100000 in
theorem mX2_whoDoes {Y : vv_Y} (hY : Y.2.2.2.2 = wC) {d : Nat} (hd : is_X2 d) {a1 : Int32} {a2 : Int32} {σ : vv_S} {post : Int32 → vv_S → Prop} (h : wX2_whoDoes d a1 a2 σ post) : vv_MI Y yX2_whoDoes cX2_whoDoes 5 (some .int) 0 0 [.ref (vv_q Y d), .int a1, .int a2] σ post := by
  refine vv_ofI (by decide) (Nat.le_of_ble_eq_true rfl) (fun X C => ?_)
  have C : VC Y X RX2 cX2_whoDoes 5 (some .int) 0 0 := C
  refine vv_sub [0, 1, 2] (L' := [(0, .ref (vv_q Y d)), (1, .int a1), (2, .int a2)]) rfl ?_
  refine vv_aload_n C 0 dX2_whoDoes_0 rfl rfl ?_
  refine vv_geti C kc_X2 (s_X2 hY hd) 1 (by decide) rfl fk_X2_26 dX2_whoDoes_1 ?_
  refine vv_iconst C dX2_whoDoes_4 ki_1 ?_
  refine vv_icmp_ge (pc := 5) C 11 dX2_whoDoes_5 (by decide) (fun hc1 => ?_) (fun hc1 => ?_)
  · replace h := h.1 hc1
    refine vv_iload_n C 2 dX2_whoDoes_11 rfl rfl ?_
    refine vv_istore_n (L' := [(3, .int a2), (0, .ref (vv_q Y d)), (1, .int a1), (2, .int a2)]) C dX2_whoDoes_12 rfl (by decide) rfl ?_
    refine vv_aload_n C 1 dX2_whoDoes_13 rfl rfl ?_
    refine vv_geti C kc_X2 (s_X2 hY hd) 4 (by decide) rfl fk_X2_30 dX2_whoDoes_14 ?_
    refine vv_iconst C dX2_whoDoes_17 ki_1 ?_
    refine vv_isub C dX2_whoDoes_18 ?_
    refine vv_nm (fun v2 ev2 => ?_)
    replace h := h v2 ev2
    refine vv_istore (L' := [(4, .int v2), (3, .int a2), (0, .ref (vv_q Y d)), (1, .int a1), (2, .int a2)]) C dX2_whoDoes_19 (by decide) rfl ?_
    refine vv_join (fun k => ∀ (v3 : Int32), k v3 → VJ Y X (va_Qi post (vv_B Y) X.2) 5 40 [(0, .ref (vv_q Y d)), (3, .int v3)] [] σ) h (fun v3 h => ?_) (fun k40_3 hJk40_3 h => ?_)
    · refine vv_iload_n C 1 dX2_whoDoes_40 rfl rfl ?_
      refine vv_aload_n C 0 dX2_whoDoes_41 rfl rfl ?_
      refine vv_geti C kc_X2 (s_X2 hY hd) 1 (by decide) rfl fk_X2_26 dX2_whoDoes_42 ?_
      obtain ⟨hne, h⟩ := h
      refine vv_irem C dX2_whoDoes_45 hne ?_
      exact vv_iret C dX2_whoDoes_46 h
    · obtain ⟨n7, h⟩ := h
      have hl1 : ∀ (n7 : Nat) (v5 : Int32) (v6 : Int32), lX2_whoDoes_1 a1 k40_3 σ d n7 v5 v6 → VJ Y X (va_Qi post (vv_B Y) X.2) 5 21 [(0, .ref (vv_q Y d)), (1, .int a1), (3, .int v5), (4, .int v6)] [] σ := by
        clear h
        intro n7
        induction n7 with
        | zero => intro v5 v6 h; exact False.elim h
        | succ n7 ih1 =>
          intro v5 v6 h
          refine vv_iload C 3 dX2_whoDoes_21 rfl ?_
          refine vv_iload_n C 1 dX2_whoDoes_23 rfl rfl ?_
          refine vv_icmp_le (pc := 24) C 40 dX2_whoDoes_24 (by decide) (fun hc8 => ?_) (fun hc8 => ?_)
          · replace h := h.1 hc8
            refine vv_sub [0, 2] (L' := [(0, .ref (vv_q Y d)), (3, .int v5)]) rfl ?_
            exact hJk40_3 _ h
          · replace h := h.2 hc8
            refine vv_iload_n C 2 dX2_whoDoes_27 rfl rfl ?_
            refine vv_aload_n C 0 dX2_whoDoes_28 rfl rfl ?_
            refine vv_geti C kc_X2 (s_X2 hY hd) 1 (by decide) rfl fk_X2_26 dX2_whoDoes_29 ?_
            obtain ⟨hne, h⟩ := h
            refine vv_idiv C dX2_whoDoes_32 hne ?_
            refine vv_nm (fun v9 ev9 => ?_)
            replace h := h v9 ev9
            refine vv_istore_n (L' := [(3, .int v9), (0, .ref (vv_q Y d)), (1, .int a1), (4, .int v6)]) C dX2_whoDoes_33 rfl (by decide) rfl ?_
            obtain ⟨v10, ev10⟩ : ∃ z : Int32, z = v6 + (-1 : Int32) := ⟨_, rfl⟩
            replace h := h v10 ev10
            refine vv_iinc (v := v10) (L' := [(4, .int v10), (3, .int v9), (0, .ref (vv_q Y d)), (1, .int a1)]) C 3 dX2_whoDoes_34 rfl ((kinc ki_m1).trans ev10.symm) (by decide) rfl ?_
            refine vv_goto (pc := 37) (tgt := 21) C dX2_whoDoes_37 (by decide) ?_
            refine vv_sub [2, 3, 1, 0] (L' := [(0, .ref (vv_q Y d)), (1, .int a1), (3, .int v9), (4, .int v10)]) rfl ?_
            exact ih1 _ _ h
      refine vv_sub [2, 3, 1, 0] (L' := [(0, .ref (vv_q Y d)), (1, .int a1), (3, .int a2), (4, .int v2)]) rfl ?_
      exact hl1 n7 _ _ h
  · replace h := h.2 hc1
    refine vv_bipush C dX2_whoDoes_8 kb_m4 ?_
    exact vv_iret C dX2_whoDoes_10 h
set_option maxHeartbeats 2000000 in
set_option maxRecDepth 100000 in
theorem mX2_minutesFor {Y : vv_Y} (hY : Y.2.2.2.2 = wC) {d : Nat} (hd : is_X2 d) {a1 : Int32} {a2 : Int32} {σ : vv_S} {post : Int32 → vv_S → Prop} (h : wX2_minutesFor d a1 a2 σ post) : vv_MI Y yX2_minutesFor cX2_minutesFor 4 (some .int) 0 0 [.ref (vv_q Y d), .int a1, .int a2] σ post := by
  refine vv_ofI (by decide) (Nat.le_of_ble_eq_true rfl) (fun X C => ?_)
  have C : VC Y X RX2 cX2_minutesFor 4 (some .int) 0 0 := C
  refine vv_sub [0, 1, 2] (L' := [(0, .ref (vv_q Y d)), (1, .int a1), (2, .int a2)]) rfl ?_
  refine vv_iload_n C 1 dX2_minutesFor_0 rfl rfl ?_
  refine vv_join (fun k =>  k → VJ Y X (va_Qi post (vv_B Y) X.2) 4 24 [] [] σ) h (fun h => ?_) (fun k24_0 hJk24_0 h => ?_)
  · refine vv_bipush C dX2_minutesFor_24 kb_m4 ?_
    exact vv_iret C dX2_minutesFor_26 h
  · refine vv_if_lt (pc := 1) C 24 dX2_minutesFor_1 (by decide) (fun hc2 => ?_) (fun hc2 => ?_)
    · replace h := h.1 hc2
      refine vv_sub [] (L' := []) rfl ?_
      exact hJk24_0 h
    · replace h := h.2 hc2
      refine vv_iload_n C 1 dX2_minutesFor_4 rfl rfl ?_
      refine vv_aload_n C 0 dX2_minutesFor_5 rfl rfl ?_
      refine vv_geti C kc_X2 (s_X2 hY hd) 1 (by decide) rfl fk_X2_26 dX2_minutesFor_6 ?_
      refine vv_icmp_ge (pc := 9) C 24 dX2_minutesFor_9 (by decide) (fun hc3 => ?_) (fun hc3 => ?_)
      · replace h := h.1 hc3
        refine vv_sub [] (L' := []) rfl ?_
        exact hJk24_0 h
      · replace h := h.2 hc3
        refine vv_iload_n C 2 dX2_minutesFor_12 rfl rfl ?_
        refine vv_if_lt (pc := 13) C 24 dX2_minutesFor_13 (by decide) (fun hc4 => ?_) (fun hc4 => ?_)
        · replace h := h.1 hc4
          refine vv_sub [] (L' := []) rfl ?_
          exact hJk24_0 h
        · replace h := h.2 hc4
          refine vv_iload_n C 2 dX2_minutesFor_16 rfl rfl ?_
          refine vv_aload_n C 0 dX2_minutesFor_17 rfl rfl ?_
          refine vv_geti C kc_X2 (s_X2 hY hd) 4 (by decide) rfl fk_X2_30 dX2_minutesFor_18 ?_
          refine vv_icmp_lt (pc := 21) C 27 dX2_minutesFor_21 (by decide) (fun hc5 => ?_) (fun hc5 => ?_)
          · replace h := h.1 hc5
            refine vv_aload_n C 0 dX2_minutesFor_27 rfl rfl ?_
            refine vv_getr (r := (d + 1)) C kc_X2 (s_X2 hY hd) 0 (by decide) rfl fk_X2_11 dX2_minutesFor_28 ?_
            refine vv_iload_n C 1 dX2_minutesFor_31 rfl rfl ?_
            obtain ⟨hi6, h⟩ := h
            refine vv_aaldA C (a_X2_lays hY hd) hi6 dX2_minutesFor_32 ?_
            refine vv_aload_n C 0 dX2_minutesFor_33 rfl rfl ?_
            refine vv_getr (r := (d + 6)) C kc_X2 (s_X2 hY hd) 2 (by decide) rfl fk_X2_16 dX2_minutesFor_34 ?_
            refine vv_iload_n C 2 dX2_minutesFor_37 rfl rfl ?_
            obtain ⟨hi7, h⟩ := h
            refine vv_iald C (a_X2_jobStuff hY hd) hi7 rfl dX2_minutesFor_38 ?_
            obtain ⟨hi8, h⟩ := h
            refine vv_iald C (r_X2_lays hY hd hi6) hi8 rfl dX2_minutesFor_39 ?_
            refine vv_nm (fun v9 ev9 => ?_)
            replace h := h v9 ev9
            refine vv_istore_n (L' := [(3, .int v9), (0, .ref (vv_q Y d)), (1, .int a1), (2, .int a2)]) C dX2_minutesFor_40 rfl (by decide) rfl ?_
            refine vv_iload_n C 0 dX2_minutesFor_41 rfl rfl ?_
            refine vv_iconst C dX2_minutesFor_42 ki_1 ?_
            refine vv_join (fun k => ∀ (v10 : Int32), k v10 → VJ Y X (va_Qi post (vv_B Y) X.2) 4 63 [] [.int v10] σ) h (fun v10 h => ?_) (fun k63_10 hJk63_10 h => ?_)
            · exact vv_iret C dX2_minutesFor_63 h
            · refine vv_icmp_ge (pc := 43) C 51 dX2_minutesFor_43 (by decide) (fun hc12 => ?_) (fun hc12 => ?_)
              · replace h := h.1 hc12
                refine vv_aload_n C 1 dX2_minutesFor_51 rfl rfl ?_
                refine vv_getr (r := (d + 7)) C kc_X2 (s_X2 hY hd) 3 (by decide) rfl fk_X2_20 dX2_minutesFor_52 ?_
                refine vv_iload_n C 3 dX2_minutesFor_55 rfl rfl ?_
                obtain ⟨hi13, h⟩ := h
                refine vv_iald C (a_X2_jobInches hY hd) hi13 rfl dX2_minutesFor_56 ?_
                refine vv_iload_n C 0 dX2_minutesFor_57 rfl rfl ?_
                refine vv_iadd C dX2_minutesFor_58 ?_
                refine vv_iconst C dX2_minutesFor_59 ki_1 ?_
                refine vv_isub C dX2_minutesFor_60 ?_
                refine vv_iload_n C 0 dX2_minutesFor_61 rfl rfl ?_
                obtain ⟨hne, h⟩ := h
                refine vv_idiv C dX2_minutesFor_62 hne ?_
                refine vv_sub [] (L' := []) rfl ?_
                exact hJk63_10 _ h
              · replace h := h.2 hc12
                refine vv_bipush C dX2_minutesFor_46 kb_m4 ?_
                refine vv_goto (pc := 48) (tgt := 63) C dX2_minutesFor_48 (by decide) ?_
                refine vv_sub [] (L' := []) rfl ?_
                exact hJk63_10 _ h
          · replace h := h.2 hc5
            refine vv_sub [] (L' := []) rfl ?_
            exact hJk24_0 h
set_option maxHeartbeats 2000000 in
set_option maxRecDepth 100000 in
theorem mX2_minutesBy {Y : vv_Y} (hY : Y.2.2.2.2 = wC) {d : Nat} (hd : is_X2 d) {a1 : Int32} {σ : vv_S} {post : Int32 → vv_S → Prop} (h : wX2_minutesBy d a1 σ post) : vv_MI Y yX2_minutesBy cX2_minutesBy 6 (some .int) 1 24 [.ref (vv_q Y d), .int a1] σ post := by
  refine vv_ofI (by decide) (Nat.le_of_ble_eq_true rfl) (fun X C => ?_)
  have C : VC Y X RX2 cX2_minutesBy 6 (some .int) 1 24 := C
  refine vv_sub [0, 1] (L' := [(0, .ref (vv_q Y d)), (1, .int a1)]) rfl ?_
  refine vv_iconst C dX2_minutesBy_0 ki_0 ?_
  refine vv_istore_n (L' := [(2, .int (0 : Int32)), (0, .ref (vv_q Y d)), (1, .int a1)]) C dX2_minutesBy_1 rfl (by decide) rfl ?_
  refine vv_iconst C dX2_minutesBy_2 ki_0 ?_
  refine vv_istore_n (L' := [(3, .int (0 : Int32)), (2, .int (0 : Int32)), (0, .ref (vv_q Y d)), (1, .int a1)]) C dX2_minutesBy_3 rfl (by decide) rfl ?_
  refine vv_join (fun k => ∀ (σ1 : vv_S), k σ1 → VJ Y X (va_Qi post (vv_B Y) X.2) 6 22 [(0, .ref (vv_q Y d)), (1, .int a1), (2, .int (0 : Int32))] [] σ1) h (fun σ1 h => ?_) (fun k22_1 hJk22_1 h => ?_)
  · refine vv_iconst C dX2_minutesBy_22 ki_0 ?_
    refine vv_istore_n (L' := [(3, .int (0 : Int32)), (0, .ref (vv_q Y d)), (1, .int a1), (2, .int (0 : Int32))]) C dX2_minutesBy_23 rfl (by decide) rfl ?_
    refine vv_join (fun k => ∀ (σ3 : vv_S), k σ3 → VJ Y X (va_Qi post (vv_B Y) X.2) 6 67 [] [] σ3) h (fun σ3 h => ?_) (fun k67_3 hJk67_3 h => ?_)
    · refine vv_bipush C dX2_minutesBy_67 kb_m4 ?_
      exact vv_iret C dX2_minutesBy_69 h
    · obtain ⟨n8, h⟩ := h
      have hl1 : ∀ (n8 : Nat) (v5 : Int32) (v6 : Int32) (σ7 : vv_S), lX2_minutesBy_1 d post a1 k67_3 n8 v5 v6 σ7 → VJ Y X (va_Qi post (vv_B Y) X.2) 6 24 [(0, .ref (vv_q Y d)), (1, .int a1), (2, .int v5), (3, .int v6)] [] σ7 := by
        clear h
        intro n8
        induction n8 with
        | zero => intro v5 v6 σ7 h; exact False.elim h
        | succ n8 ih1 =>
          intro v5 v6 σ7 h
          refine vv_iload_n C 3 dX2_minutesBy_24 rfl rfl ?_
          refine vv_aload_n C 0 dX2_minutesBy_25 rfl rfl ?_
          refine vv_geti C kc_X2 (s_X2 hY hd) 4 (by decide) rfl fk_X2_30 dX2_minutesBy_26 ?_
          refine vv_icmp_ge (pc := 29) C 100 dX2_minutesBy_29 (by decide) (fun hc9 => ?_) (fun hc9 => ?_)
          · replace h := h.1 hc9
            refine vv_iload_n C 2 dX2_minutesBy_100 rfl rfl ?_
            exact vv_iret C dX2_minutesBy_101 h
          · replace h := h.2 hc9
            refine vv_aload_n C 0 dX2_minutesBy_32 rfl rfl ?_
            refine vv_iload_n C 3 dX2_minutesBy_33 rfl rfl ?_
            refine vv_iload_n C 1 dX2_minutesBy_34 rfl rfl ?_
            refine vv_callI (rest := []) C yk_X2_whoDoes vk_X2_whoDoes lk_X2_54 kc_X2.1 (s_X2 hY hd) dX2_minutesBy_35 (mX2_whoDoes hY hd h) rfl rfl ⟨Nat.le_of_ble_eq_true rfl, Nat.le_of_ble_eq_true rfl⟩ (Nat.le_of_ble_eq_true rfl) (fun r11 σ10 h => ?_)
            refine vv_istore (L' := [(4, .int r11), (0, .ref (vv_q Y d)), (1, .int a1), (2, .int v5), (3, .int v6)]) C dX2_minutesBy_38 (by decide) rfl ?_
            refine vv_aload_n C 1 dX2_minutesBy_40 rfl rfl ?_
            refine vv_iload C 0 dX2_minutesBy_41 rfl ?_
            refine vv_iload_n C 4 dX2_minutesBy_43 rfl rfl ?_
            refine vv_callI (rest := []) C yk_X2_minutesFor vk_X2_minutesFor lk_X2_58 kc_X2.1 (s_X2 hY hd) dX2_minutesBy_44 (mX2_minutesFor hY hd h) rfl rfl ⟨Nat.le_of_ble_eq_true rfl, Nat.le_of_ble_eq_true rfl⟩ (Nat.le_of_ble_eq_true rfl) (fun r13 σ12 h => ?_)
            refine vv_istore (L' := [(5, .int r13), (4, .int r11), (0, .ref (vv_q Y d)), (1, .int a1), (2, .int v5), (3, .int v6)]) C dX2_minutesBy_47 (by decide) rfl ?_
            refine vv_iload C 0 dX2_minutesBy_49 rfl ?_
            refine vv_bipush C dX2_minutesBy_51 kb_m4 ?_
            refine vv_icmp_eq (pc := 53) C 67 dX2_minutesBy_53 (by decide) (fun hc14 => ?_) (fun hc14 => ?_)
            · replace h := h.1 hc14
              refine vv_sub [] (L' := []) rfl ?_
              exact hJk67_3 _ h
            · replace h := h.2 hc14
              refine vv_iload C 1 dX2_minutesBy_56 rfl ?_
              refine vv_if_lt (pc := 58) C 67 dX2_minutesBy_58 (by decide) (fun hc15 => ?_) (fun hc15 => ?_)
              · replace h := h.1 hc15
                refine vv_sub [] (L' := []) rfl ?_
                exact hJk67_3 _ h
              · replace h := h.2 hc15
                refine vv_iload C 1 dX2_minutesBy_61 rfl ?_
                refine vv_iconst C dX2_minutesBy_63 ki_4 ?_
                refine vv_icmp_lt (pc := 64) C 70 dX2_minutesBy_64 (by decide) (fun hc16 => ?_) (fun hc16 => ?_)
                · replace h := h.1 hc16
                  refine vv_aload_n C 2 dX2_minutesBy_70 rfl rfl ?_
                  refine vv_getr (r := (d + 8)) C kc_X2 (s_X2 hY hd) 5 (by decide) rfl fk_X2_23 dX2_minutesBy_71 ?_
                  refine vv_iload C 1 dX2_minutesBy_74 rfl ?_
                  refine vv_dup2 C dX2_minutesBy_76 rfl rfl ?_
                  obtain ⟨hi17, h⟩ := h
                  refine vv_iald C (a_X2_busy hY hd) hi17 rfl dX2_minutesBy_77 ?_
                  refine vv_iload C 0 dX2_minutesBy_78 rfl ?_
                  refine vv_iadd C dX2_minutesBy_80 ?_
                  obtain ⟨hi18, h⟩ := h
                  refine vv_iast C (a_X2_busy hY hd) hi18 rfl dX2_minutesBy_81 (fun σ19 eσ19 => ?_)
                  replace h := h σ19 eσ19
                  refine vv_iload_n C 4 dX2_minutesBy_82 rfl rfl ?_
                  refine vv_aload_n C 2 dX2_minutesBy_83 rfl rfl ?_
                  refine vv_getr (r := (d + 8)) C kc_X2 (s_X2 hY hd) 5 (by decide) rfl fk_X2_23 dX2_minutesBy_84 ?_
                  refine vv_iload C 1 dX2_minutesBy_87 rfl ?_
                  obtain ⟨hi20, h⟩ := h
                  refine vv_iald C (a_X2_busy hY hd) hi20 rfl dX2_minutesBy_89 ?_
                  refine vv_max C lk_X2_61 mk_max (by decide) (Nat.le_of_ble_eq_true rfl) dX2_minutesBy_90 ?_
                  refine vv_nm (fun v21 ev21 => ?_)
                  replace h := h v21 ev21
                  refine vv_istore_n (L' := [(2, .int v21), (5, .int r13), (4, .int r11), (0, .ref (vv_q Y d)), (1, .int a1), (3, .int v6)]) C dX2_minutesBy_93 rfl (by decide) rfl ?_
                  obtain ⟨v22, ev22⟩ : ∃ z : Int32, z = v6 + (1 : Int32) := ⟨_, rfl⟩
                  replace h := h v22 ev22
                  refine vv_iinc (v := v22) (L' := [(3, .int v22), (2, .int v21), (5, .int r13), (4, .int r11), (0, .ref (vv_q Y d)), (1, .int a1)]) C 5 dX2_minutesBy_94 rfl ((kinc ki_1).trans ev22.symm) (by decide) rfl ?_
                  refine vv_goto (pc := 97) (tgt := 24) C dX2_minutesBy_97 (by decide) ?_
                  refine vv_sub [4, 5, 1, 0] (L' := [(0, .ref (vv_q Y d)), (1, .int a1), (2, .int v21), (3, .int v22)]) rfl ?_
                  exact ih1 _ _ _ h
                · replace h := h.2 hc16
                  refine vv_sub [] (L' := []) rfl ?_
                  exact hJk67_3 _ h
      refine vv_sub [1, 2, 3, 0] (L' := [(0, .ref (vv_q Y d)), (1, .int a1), (2, .int (0 : Int32)), (3, .int (0 : Int32))]) rfl ?_
      exact hl1 n8 _ _ _ h
  · obtain ⟨n25, h⟩ := h
    have hl2 : ∀ (n25 : Nat) (v23 : Int32) (σ24 : vv_S), lX2_minutesBy_2 k22_1 d n25 v23 σ24 → VJ Y X (va_Qi post (vv_B Y) X.2) 6 4 [(0, .ref (vv_q Y d)), (1, .int a1), (2, .int (0 : Int32)), (3, .int v23)] [] σ24 := by
      clear h
      intro n25
      induction n25 with
      | zero => intro v23 σ24 h; exact False.elim h
      | succ n25 ih2 =>
        intro v23 σ24 h
        refine vv_iload_n C 3 dX2_minutesBy_4 rfl rfl ?_
        refine vv_iconst C dX2_minutesBy_5 ki_4 ?_
        refine vv_icmp_ge (pc := 6) C 22 dX2_minutesBy_6 (by decide) (fun hc26 => ?_) (fun hc26 => ?_)
        · replace h := h.1 hc26
          refine vv_sub [0, 1, 2] (L' := [(0, .ref (vv_q Y d)), (1, .int a1), (2, .int (0 : Int32))]) rfl ?_
          exact hJk22_1 _ h
        · replace h := h.2 hc26
          refine vv_aload_n C 0 dX2_minutesBy_9 rfl rfl ?_
          refine vv_getr (r := (d + 8)) C kc_X2 (s_X2 hY hd) 5 (by decide) rfl fk_X2_23 dX2_minutesBy_10 ?_
          refine vv_iload_n C 3 dX2_minutesBy_13 rfl rfl ?_
          refine vv_iconst C dX2_minutesBy_14 ki_0 ?_
          obtain ⟨hi27, h⟩ := h
          refine vv_iast C (a_X2_busy hY hd) hi27 rfl dX2_minutesBy_15 (fun σ28 eσ28 => ?_)
          replace h := h σ28 eσ28
          obtain ⟨v29, ev29⟩ : ∃ z : Int32, z = v23 + (1 : Int32) := ⟨_, rfl⟩
          replace h := h v29 ev29
          refine vv_iinc (v := v29) (L' := [(3, .int v29), (0, .ref (vv_q Y d)), (1, .int a1), (2, .int (0 : Int32))]) C 3 dX2_minutesBy_16 rfl ((kinc ki_1).trans ev29.symm) (by decide) rfl ?_
          refine vv_goto (pc := 19) (tgt := 4) C dX2_minutesBy_19 (by decide) ?_
          refine vv_sub [1, 2, 3, 0] (L' := [(0, .ref (vv_q Y d)), (1, .int a1), (2, .int (0 : Int32)), (3, .int v29)]) rfl ?_
          exact ih2 _ _ h
    refine vv_sub [2, 3, 1, 0] (L' := [(0, .ref (vv_q Y d)), (1, .int a1), (2, .int (0 : Int32)), (3, .int (0 : Int32))]) rfl ?_
    exact hl2 n25 _ _ h
set_option maxHeartbeats 2000000 in
set_option maxRecDepth 100000 in
theorem mX2_quickestWay {Y : vv_Y} (hY : Y.2.2.2.2 = wC) {d : Nat} (hd : is_X2 d) {σ : vv_S} {post : Int32 → vv_S → Prop} (h : wX2_quickestWay d σ post) : vv_MI Y yX2_quickestWay cX2_quickestWay 6 (some .int) 2 49 [.ref (vv_q Y d)] σ post := by
  refine vv_ofI (by decide) (Nat.le_of_ble_eq_true rfl) (fun X C => ?_)
  have C : VC Y X RX2 cX2_quickestWay 6 (some .int) 2 49 := C
  refine vv_sub [0] (L' := [(0, .ref (vv_q Y d))]) rfl ?_
  refine vv_bipush C dX2_quickestWay_0 kb_m4 ?_
  refine vv_istore_n (L' := [(1, .int (-4 : Int32)), (0, .ref (vv_q Y d))]) C dX2_quickestWay_2 rfl (by decide) rfl ?_
  refine vv_iconst C dX2_quickestWay_3 ki_0 ?_
  refine vv_istore_n (L' := [(2, .int (0 : Int32)), (1, .int (-4 : Int32)), (0, .ref (vv_q Y d))]) C dX2_quickestWay_4 rfl (by decide) rfl ?_
  refine vv_aload_n C 2 dX2_quickestWay_5 rfl rfl ?_
  refine vv_callI (rest := []) C yk_X2_wayCount vk_X2_wayCount lk_X2_47 kc_X2.1 (s_X2 hY hd) dX2_quickestWay_6 (mX2_wayCount hY hd h) rfl rfl ⟨Nat.le_of_ble_eq_true rfl, Nat.le_of_ble_eq_true rfl⟩ (Nat.le_of_ble_eq_true rfl) (fun r2 σ1 h => ?_)
  refine vv_istore_n (L' := [(3, .int r2), (2, .int (0 : Int32)), (1, .int (-4 : Int32)), (0, .ref (vv_q Y d))]) C dX2_quickestWay_9 rfl (by decide) rfl ?_
  refine vv_iconst C dX2_quickestWay_10 ki_0 ?_
  refine vv_istore (L' := [(4, .int (0 : Int32)), (3, .int r2), (2, .int (0 : Int32)), (1, .int (-4 : Int32)), (0, .ref (vv_q Y d))]) C dX2_quickestWay_11 (by decide) rfl ?_
  obtain ⟨n7, h⟩ := h
  have hl1 : ∀ (n7 : Nat) (v3 : Int32) (v4 : Int32) (v5 : Int32) (σ6 : vv_S), lX2_quickestWay_1 r2 post d n7 v3 v4 v5 σ6 → VJ Y X (va_Qi post (vv_B Y) X.2) 6 13 [(0, .ref (vv_q Y d)), (1, .int v3), (2, .int v4), (3, .int r2), (4, .int v5)] [] σ6 := by
    clear h
    intro n7
    induction n7 with
    | zero => intro v3 v4 v5 σ6 h; exact False.elim h
    | succ n7 ih1 =>
      intro v3 v4 v5 σ6 h
      refine vv_iload C 4 dX2_quickestWay_13 rfl ?_
      refine vv_iload_n C 3 dX2_quickestWay_15 rfl rfl ?_
      refine vv_icmp_ge (pc := 16) C 58 dX2_quickestWay_16 (by decide) (fun hc8 => ?_) (fun hc8 => ?_)
      · replace h := h.1 hc8
        refine vv_iload_n C 1 dX2_quickestWay_58 rfl rfl ?_
        exact vv_iret C dX2_quickestWay_59 h
      · replace h := h.2 hc8
        refine vv_aload_n C 0 dX2_quickestWay_19 rfl rfl ?_
        refine vv_iload C 4 dX2_quickestWay_20 rfl ?_
        refine vv_callI (rest := []) C yk_X2_minutesBy vk_X2_minutesBy lk_X2_51 kc_X2.1 (s_X2 hY hd) dX2_quickestWay_22 (mX2_minutesBy hY hd h) rfl rfl ⟨Nat.le_of_ble_eq_true rfl, Nat.le_of_ble_eq_true rfl⟩ (Nat.le_of_ble_eq_true rfl) (fun r10 σ9 h => ?_)
        refine vv_istore (L' := [(5, .int r10), (0, .ref (vv_q Y d)), (1, .int v3), (2, .int v4), (3, .int r2), (4, .int v5)]) C dX2_quickestWay_25 (by decide) rfl ?_
        refine vv_iload C 0 dX2_quickestWay_27 rfl ?_
        refine vv_bipush C dX2_quickestWay_29 kb_m4 ?_
        refine vv_join (fun k => ∀ (v11 : Int32) (v12 : Int32), k v11 v12 → VJ Y X (va_Qi post (vv_B Y) X.2) 6 52 [(0, .ref (vv_q Y d)), (1, .int v11), (2, .int v12), (3, .int r2), (4, .int v5)] [] σ9) h (fun v11 v12 h => ?_) (fun k52_12 hJk52_12 h => ?_)
        · obtain ⟨v14, ev14⟩ : ∃ z : Int32, z = v5 + (1 : Int32) := ⟨_, rfl⟩
          replace h := h v14 ev14
          refine vv_iinc (v := v14) (L' := [(4, .int v14), (0, .ref (vv_q Y d)), (1, .int v11), (2, .int v12), (3, .int r2)]) C 4 dX2_quickestWay_52 rfl ((kinc ki_1).trans ev14.symm) (by decide) rfl ?_
          refine vv_goto (pc := 55) (tgt := 13) C dX2_quickestWay_55 (by decide) ?_
          refine vv_sub [1, 2, 3, 4, 0] (L' := [(0, .ref (vv_q Y d)), (1, .int v11), (2, .int v12), (3, .int r2), (4, .int v14)]) rfl ?_
          exact ih1 _ _ _ _ h
        · refine vv_icmp_eq (pc := 31) C 52 dX2_quickestWay_31 (by decide) (fun hc15 => ?_) (fun hc15 => ?_)
          · replace h := h.1 hc15
            refine vv_sub [1, 2, 3, 4, 5] (L' := [(0, .ref (vv_q Y d)), (1, .int v3), (2, .int v4), (3, .int r2), (4, .int v5)]) rfl ?_
            exact hJk52_12 _ _ h
          · replace h := h.2 hc15
            refine vv_iload_n C 2 dX2_quickestWay_34 rfl rfl ?_
            refine vv_bipush C dX2_quickestWay_35 kb_m4 ?_
            refine vv_join (fun k =>  k → VJ Y X (va_Qi post (vv_B Y) X.2) 6 46 [(0, .ref (vv_q Y d)), (3, .int r2), (4, .int v5), (5, .int r10)] [] σ9) h (fun h => ?_) (fun k46_15 hJk46_15 h => ?_)
            · refine vv_iload C 2 dX2_quickestWay_46 rfl ?_
              refine vv_istore_n (L' := [(1, .int v5), (0, .ref (vv_q Y d)), (3, .int r2), (4, .int v5), (5, .int r10)]) C dX2_quickestWay_48 rfl (by decide) rfl ?_
              refine vv_iload C 4 dX2_quickestWay_49 rfl ?_
              refine vv_istore_n (L' := [(2, .int r10), (1, .int v5), (0, .ref (vv_q Y d)), (3, .int r2), (4, .int v5), (5, .int r10)]) C dX2_quickestWay_51 rfl (by decide) rfl ?_
              refine vv_sub [2, 1, 0, 3, 4] (L' := [(0, .ref (vv_q Y d)), (1, .int v5), (2, .int r10), (3, .int r2), (4, .int v5)]) rfl ?_
              exact hJk52_12 _ _ h
            · refine vv_icmp_eq (pc := 37) C 46 dX2_quickestWay_37 (by decide) (fun hc17 => ?_) (fun hc17 => ?_)
              · replace h := h.1 hc17
                refine vv_sub [1, 4, 5, 0] (L' := [(0, .ref (vv_q Y d)), (3, .int r2), (4, .int v5), (5, .int r10)]) rfl ?_
                exact hJk46_15 h
              · replace h := h.2 hc17
                refine vv_iload C 0 dX2_quickestWay_40 rfl ?_
                refine vv_iload_n C 3 dX2_quickestWay_42 rfl rfl ?_
                refine vv_icmp_ge (pc := 43) C 52 dX2_quickestWay_43 (by decide) (fun hc18 => ?_) (fun hc18 => ?_)
                · replace h := h.1 hc18
                  refine vv_sub [1, 2, 3, 4, 5] (L' := [(0, .ref (vv_q Y d)), (1, .int v3), (2, .int v4), (3, .int r2), (4, .int v5)]) rfl ?_
                  exact hJk52_12 _ _ h
                · replace h := h.2 hc18
                  refine vv_sub [1, 4, 5, 0] (L' := [(0, .ref (vv_q Y d)), (3, .int r2), (4, .int v5), (5, .int r10)]) rfl ?_
                  exact hJk46_15 h
  refine vv_sub [4, 3, 2, 1, 0] (L' := [(0, .ref (vv_q Y d)), (1, .int (-4 : Int32)), (2, .int (0 : Int32)), (3, .int r2), (4, .int (0 : Int32))]) rfl ?_
  exact hl1 n7 _ _ _ _ h
set_option maxHeartbeats 2000000 in
set_option maxRecDepth 100000 in
theorem mX3_copyFrom {Y : vv_Y} (hY : Y.2.2.2.2 = wC) {d : Nat} (hd : is_X3 d) {o1 : Nat} (ho1 : is_X3 o1) {σ : vv_S} {post : vv_S → Prop} (h : wX3_copyFrom d o1 σ post) : vv_MV Y yX3_copyFrom cX3_copyFrom 3 none 2 42 [.ref (vv_q Y d), .ref (vv_q Y o1)] σ post := by
  refine vv_ofV (by decide) (Nat.le_of_ble_eq_true rfl) (fun X C => ?_)
  have C : VC Y X RX3 cX3_copyFrom 3 none 2 42 := C
  refine vv_sub [0, 1] (L' := [(0, .ref (vv_q Y d)), (1, .ref (vv_q Y o1))]) rfl ?_
  refine vv_iconst C dX3_copyFrom_0 ki_0 ?_
  refine vv_istore_n (L' := [(2, .int (0 : Int32)), (0, .ref (vv_q Y d)), (1, .ref (vv_q Y o1))]) C dX3_copyFrom_1 rfl (by decide) rfl ?_
  refine vv_join (fun k => ∀ (σ1 : vv_S), k σ1 → VJ Y X (va_Qv post (vv_B Y) X.2) 3 50 [(0, .ref (vv_q Y d)), (1, .ref (vv_q Y o1))] [] σ1) h (fun σ1 h => ?_) (fun k50_1 hJk50_1 h => ?_)
  · refine vv_aload_n C 0 dX3_copyFrom_50 rfl rfl ?_
    refine vv_aload_n C 1 dX3_copyFrom_51 rfl rfl ?_
    refine vv_geti C kc_X3 (s_X3 hY ho1) 4 (by decide) rfl fk_X3_34 dX3_copyFrom_52 ?_
    refine vv_puti C kc_X3 (s_X3 hY hd) 4 (by decide) rfl pf_X3_4 fk_X3_34 dX3_copyFrom_55 (fun σ3 eσ3 => ?_)
    replace h := h σ3 eσ3
    refine vv_aload_n C 0 dX3_copyFrom_58 rfl rfl ?_
    refine vv_aload_n C 1 dX3_copyFrom_59 rfl rfl ?_
    refine vv_geti C kc_X3 (s_X3 hY ho1) 5 (by decide) rfl fk_X3_38 dX3_copyFrom_60 ?_
    refine vv_puti C kc_X3 (s_X3 hY hd) 5 (by decide) rfl pf_X3_5 fk_X3_38 dX3_copyFrom_63 (fun σ4 eσ4 => ?_)
    replace h := h σ4 eσ4
    refine vv_aload_n C 0 dX3_copyFrom_66 rfl rfl ?_
    refine vv_aload_n C 1 dX3_copyFrom_67 rfl rfl ?_
    refine vv_geti C kc_X3 (s_X3 hY ho1) 6 (by decide) rfl fk_X3_41 dX3_copyFrom_68 ?_
    refine vv_puti C kc_X3 (s_X3 hY hd) 6 (by decide) rfl pf_X3_6 fk_X3_41 dX3_copyFrom_71 (fun σ5 eσ5 => ?_)
    replace h := h σ5 eσ5
    refine vv_aload_n C 0 dX3_copyFrom_74 rfl rfl ?_
    refine vv_aload_n C 1 dX3_copyFrom_75 rfl rfl ?_
    refine vv_geti C kc_X3 (s_X3 hY ho1) 7 (by decide) rfl fk_X3_44 dX3_copyFrom_76 ?_
    refine vv_puti C kc_X3 (s_X3 hY hd) 7 (by decide) rfl pf_X3_7 fk_X3_44 dX3_copyFrom_79 (fun σ6 eσ6 => ?_)
    replace h := h σ6 eσ6
    refine vv_aload_n C 0 dX3_copyFrom_82 rfl rfl ?_
    refine vv_callV (rest := []) C yk_X3_survey vk_X3_survey lk_X3_47 kc_X3.1 (s_X3 hY hd) dX3_copyFrom_83 (mX3_survey hY hd h) rfl rfl ⟨Nat.le_of_ble_eq_true rfl, Nat.le_of_ble_eq_true rfl⟩ (Nat.le_of_ble_eq_true rfl) (fun σ7 h => ?_)
    exact vv_vret C dX3_copyFrom_86 h
  · obtain ⟨n10, h⟩ := h
    have hl1 : ∀ (n10 : Nat) (v8 : Int32) (σ9 : vv_S), lX3_copyFrom_1 k50_1 d o1 n10 v8 σ9 → VJ Y X (va_Qv post (vv_B Y) X.2) 3 2 [(0, .ref (vv_q Y d)), (1, .ref (vv_q Y o1)), (2, .int v8)] [] σ9 := by
      clear h
      intro n10
      induction n10 with
      | zero => intro v8 σ9 h; exact False.elim h
      | succ n10 ih1 =>
        intro v8 σ9 h
        refine vv_iload_n C 2 dX3_copyFrom_2 rfl rfl ?_
        refine vv_bipush C dX3_copyFrom_3 kb_8 ?_
        refine vv_icmp_ge (pc := 5) C 50 dX3_copyFrom_5 (by decide) (fun hc11 => ?_) (fun hc11 => ?_)
        · replace h := h.1 hc11
          refine vv_sub [0, 1] (L' := [(0, .ref (vv_q Y d)), (1, .ref (vv_q Y o1))]) rfl ?_
          exact hJk50_1 _ h
        · replace h := h.2 hc11
          refine vv_aload_n C 0 dX3_copyFrom_8 rfl rfl ?_
          refine vv_getr (r := (d + 1)) C kc_X3 (s_X3 hY hd) 1 (by decide) rfl fk_X3_9 dX3_copyFrom_9 ?_
          refine vv_iload_n C 2 dX3_copyFrom_12 rfl rfl ?_
          refine vv_aload_n C 1 dX3_copyFrom_13 rfl rfl ?_
          refine vv_getr (r := (o1 + 1)) C kc_X3 (s_X3 hY ho1) 1 (by decide) rfl fk_X3_9 dX3_copyFrom_14 ?_
          refine vv_iload_n C 2 dX3_copyFrom_17 rfl rfl ?_
          obtain ⟨hi12, h⟩ := h
          refine vv_iald C (a_X3_heights hY ho1) hi12 rfl dX3_copyFrom_18 ?_
          obtain ⟨hi13, h⟩ := h
          refine vv_iast C (a_X3_heights hY hd) hi13 rfl dX3_copyFrom_19 (fun σ14 eσ14 => ?_)
          replace h := h σ14 eσ14
          refine vv_aload_n C 0 dX3_copyFrom_20 rfl rfl ?_
          refine vv_getr (r := (d + 2)) C kc_X3 (s_X3 hY hd) 2 (by decide) rfl fk_X3_15 dX3_copyFrom_21 ?_
          refine vv_iload_n C 2 dX3_copyFrom_24 rfl rfl ?_
          refine vv_aload_n C 1 dX3_copyFrom_25 rfl rfl ?_
          refine vv_getr (r := (o1 + 2)) C kc_X3 (s_X3 hY ho1) 2 (by decide) rfl fk_X3_15 dX3_copyFrom_26 ?_
          refine vv_iload_n C 2 dX3_copyFrom_29 rfl rfl ?_
          obtain ⟨hi15, h⟩ := h
          refine vv_iald C (a_X3_stuffs hY ho1) hi15 rfl dX3_copyFrom_30 ?_
          obtain ⟨hi16, h⟩ := h
          refine vv_iast C (a_X3_stuffs hY hd) hi16 rfl dX3_copyFrom_31 (fun σ17 eσ17 => ?_)
          replace h := h σ17 eσ17
          refine vv_aload_n C 0 dX3_copyFrom_32 rfl rfl ?_
          refine vv_getr (r := (d + 3)) C kc_X3 (s_X3 hY hd) 3 (by decide) rfl fk_X3_18 dX3_copyFrom_33 ?_
          refine vv_iload_n C 2 dX3_copyFrom_36 rfl rfl ?_
          refine vv_aload_n C 1 dX3_copyFrom_37 rfl rfl ?_
          refine vv_getr (r := (o1 + 3)) C kc_X3 (s_X3 hY ho1) 3 (by decide) rfl fk_X3_18 dX3_copyFrom_38 ?_
          refine vv_iload_n C 2 dX3_copyFrom_41 rfl rfl ?_
          obtain ⟨hi18, h⟩ := h
          refine vv_iald C (a_X3_breaches hY ho1) hi18 rfl dX3_copyFrom_42 ?_
          obtain ⟨hi19, h⟩ := h
          refine vv_iast C (a_X3_breaches hY hd) hi19 rfl dX3_copyFrom_43 (fun σ20 eσ20 => ?_)
          replace h := h σ20 eσ20
          obtain ⟨v21, ev21⟩ : ∃ z : Int32, z = v8 + (1 : Int32) := ⟨_, rfl⟩
          replace h := h v21 ev21
          refine vv_iinc (v := v21) (L' := [(2, .int v21), (0, .ref (vv_q Y d)), (1, .ref (vv_q Y o1))]) C 2 dX3_copyFrom_44 rfl ((kinc ki_1).trans ev21.symm) (by decide) rfl ?_
          refine vv_goto (pc := 47) (tgt := 2) C dX3_copyFrom_47 (by decide) ?_
          refine vv_sub [1, 2, 0] (L' := [(0, .ref (vv_q Y d)), (1, .ref (vv_q Y o1)), (2, .int v21)]) rfl ?_
          exact ih1 _ _ h
    refine vv_sub [1, 2, 0] (L' := [(0, .ref (vv_q Y d)), (1, .ref (vv_q Y o1)), (2, .int (0 : Int32))]) rfl ?_
    exact hl1 n10 _ _ h
set_option maxHeartbeats 2000000 in
set_option maxRecDepth 100000 in
theorem mX3_passTillOver {Y : vv_Y} (hY : Y.2.2.2.2 = wC) {d : Nat} (hd : is_X3 d) {σ : vv_S} {post : Int32 → vv_S → Prop} (h : wX3_passTillOver d σ post) : vv_MI Y yX3_passTillOver cX3_passTillOver 2 (some .int) 3 68 [.ref (vv_q Y d)] σ post := by
  refine vv_ofI (by decide) (Nat.le_of_ble_eq_true rfl) (fun X C => ?_)
  have C : VC Y X RX3 cX3_passTillOver 2 (some .int) 3 68 := C
  refine vv_sub [0] (L' := [(0, .ref (vv_q Y d))]) rfl ?_
  refine vv_iconst C dX3_passTillOver_0 ki_1 ?_
  refine vv_istore_n (L' := [(1, .int (1 : Int32)), (0, .ref (vv_q Y d))]) C dX3_passTillOver_1 rfl (by decide) rfl ?_
  obtain ⟨n3, h⟩ := h
  have hl1 : ∀ (n3 : Nat) (v1 : Int32) (σ2 : vv_S), lX3_passTillOver_1 post d n3 v1 σ2 → VJ Y X (va_Qi post (vv_B Y) X.2) 2 2 [(0, .ref (vv_q Y d)), (1, .int v1)] [] σ2 := by
    clear h
    intro n3
    induction n3 with
    | zero => intro v1 σ2 h; exact False.elim h
    | succ n3 ih1 =>
      intro v1 σ2 h
      refine vv_iload_n C 1 dX3_passTillOver_2 rfl rfl ?_
      refine vv_sipush C dX3_passTillOver_3 ks_200 ?_
      refine vv_icmp_gt (pc := 6) C 29 dX3_passTillOver_6 (by decide) (fun hc4 => ?_) (fun hc4 => ?_)
      · replace h := h.1 hc4
        refine vv_bipush C dX3_passTillOver_29 kb_m4 ?_
        exact vv_iret C dX3_passTillOver_31 h
      · replace h := h.2 hc4
        refine vv_aload_n C 0 dX3_passTillOver_9 rfl rfl ?_
        refine vv_iconst C dX3_passTillOver_10 ki_0 ?_
        refine vv_callV (rest := []) C yk_X3_oneMinute vk_X3_oneMinute lk_X3_112 kc_X3.1 (s_X3 hY hd) dX3_passTillOver_11 (mX3_oneMinute hY hd h) rfl rfl ⟨Nat.le_of_ble_eq_true rfl, Nat.le_of_ble_eq_true rfl⟩ (Nat.le_of_ble_eq_true rfl) (fun σ5 h => ?_)
        refine vv_aload_n C 0 dX3_passTillOver_14 rfl rfl ?_
        refine vv_geti C kc_X3 (s_X3 hY hd) 13 (by decide) rfl fk_X3_99 dX3_passTillOver_15 ?_
        refine vv_if_le (pc := 18) C 23 dX3_passTillOver_18 (by decide) (fun hc6 => ?_) (fun hc6 => ?_)
        · replace h := h.1 hc6
          obtain ⟨v7, ev7⟩ : ∃ z : Int32, z = v1 + (1 : Int32) := ⟨_, rfl⟩
          replace h := h v7 ev7
          refine vv_iinc (v := v7) (L' := [(1, .int v7), (0, .ref (vv_q Y d))]) C 1 dX3_passTillOver_23 rfl ((kinc ki_1).trans ev7.symm) (by decide) rfl ?_
          refine vv_goto (pc := 26) (tgt := 2) C dX3_passTillOver_26 (by decide) ?_
          refine vv_sub [1, 0] (L' := [(0, .ref (vv_q Y d)), (1, .int v7)]) rfl ?_
          exact ih1 _ _ h
        · replace h := h.2 hc6
          refine vv_iload_n C 1 dX3_passTillOver_21 rfl rfl ?_
          exact vv_iret C dX3_passTillOver_22 h
  refine vv_sub [1, 0] (L' := [(0, .ref (vv_q Y d)), (1, .int (1 : Int32))]) rfl ?_
  exact hl1 n3 _ _ h
set_option maxHeartbeats 2000000 in
set_option maxRecDepth 100000 in
theorem mX3_passTillBreach {Y : vv_Y} (hY : Y.2.2.2.2 = wC) {d : Nat} (hd : is_X3 d) {σ : vv_S} {post : Int32 → vv_S → Prop} (h : wX3_passTillBreach d σ post) : vv_MI Y yX3_passTillBreach cX3_passTillBreach 2 (some .int) 3 68 [.ref (vv_q Y d)] σ post := by
  refine vv_ofI (by decide) (Nat.le_of_ble_eq_true rfl) (fun X C => ?_)
  have C : VC Y X RX3 cX3_passTillBreach 2 (some .int) 3 68 := C
  refine vv_sub [0] (L' := [(0, .ref (vv_q Y d))]) rfl ?_
  refine vv_iconst C dX3_passTillBreach_0 ki_1 ?_
  refine vv_istore_n (L' := [(1, .int (1 : Int32)), (0, .ref (vv_q Y d))]) C dX3_passTillBreach_1 rfl (by decide) rfl ?_
  obtain ⟨n3, h⟩ := h
  have hl1 : ∀ (n3 : Nat) (v1 : Int32) (σ2 : vv_S), lX3_passTillBreach_1 post d n3 v1 σ2 → VJ Y X (va_Qi post (vv_B Y) X.2) 2 2 [(0, .ref (vv_q Y d)), (1, .int v1)] [] σ2 := by
    clear h
    intro n3
    induction n3 with
    | zero => intro v1 σ2 h; exact False.elim h
    | succ n3 ih1 =>
      intro v1 σ2 h
      refine vv_iload_n C 1 dX3_passTillBreach_2 rfl rfl ?_
      refine vv_sipush C dX3_passTillBreach_3 ks_200 ?_
      refine vv_icmp_gt (pc := 6) C 31 dX3_passTillBreach_6 (by decide) (fun hc4 => ?_) (fun hc4 => ?_)
      · replace h := h.1 hc4
        refine vv_bipush C dX3_passTillBreach_31 kb_m4 ?_
        exact vv_iret C dX3_passTillBreach_33 h
      · replace h := h.2 hc4
        refine vv_aload_n C 0 dX3_passTillBreach_9 rfl rfl ?_
        refine vv_iconst C dX3_passTillBreach_10 ki_0 ?_
        refine vv_callV (rest := []) C yk_X3_oneMinute vk_X3_oneMinute lk_X3_112 kc_X3.1 (s_X3 hY hd) dX3_passTillBreach_11 (mX3_oneMinute hY hd h) rfl rfl ⟨Nat.le_of_ble_eq_true rfl, Nat.le_of_ble_eq_true rfl⟩ (Nat.le_of_ble_eq_true rfl) (fun σ5 h => ?_)
        refine vv_aload_n C 0 dX3_passTillBreach_14 rfl rfl ?_
        refine vv_geti C kc_X3 (s_X3 hY hd) 15 (by decide) rfl fk_X3_105 dX3_passTillBreach_15 ?_
        refine vv_bipush C dX3_passTillBreach_18 kb_m4 ?_
        refine vv_icmp_eq (pc := 20) C 25 dX3_passTillBreach_20 (by decide) (fun hc6 => ?_) (fun hc6 => ?_)
        · replace h := h.1 hc6
          obtain ⟨v7, ev7⟩ : ∃ z : Int32, z = v1 + (1 : Int32) := ⟨_, rfl⟩
          replace h := h v7 ev7
          refine vv_iinc (v := v7) (L' := [(1, .int v7), (0, .ref (vv_q Y d))]) C 1 dX3_passTillBreach_25 rfl ((kinc ki_1).trans ev7.symm) (by decide) rfl ?_
          refine vv_goto (pc := 28) (tgt := 2) C dX3_passTillBreach_28 (by decide) ?_
          refine vv_sub [1, 0] (L' := [(0, .ref (vv_q Y d)), (1, .int v7)]) rfl ?_
          exact ih1 _ _ h
        · replace h := h.2 hc6
          refine vv_iload_n C 1 dX3_passTillBreach_23 rfl rfl ?_
          exact vv_iret C dX3_passTillBreach_24 h
  refine vv_sub [1, 0] (L' := [(0, .ref (vv_q Y d)), (1, .int (1 : Int32))]) rfl ?_
  exact hl1 n3 _ _ h
set_option maxHeartbeats 2000000 in
set_option maxRecDepth 100000 in
theorem mX3_empty {Y : vv_Y} (hY : Y.2.2.2.2 = wC) {d : Nat} (hd : is_X3 d) {σ : vv_S} {post : vv_S → Prop} (h : wX3_empty d σ post) : vv_MV Y yX3_empty cX3_empty 1 none 0 0 [.ref (vv_q Y d)] σ post := by
  refine vv_ofV (by decide) (Nat.le_of_ble_eq_true rfl) (fun X C => ?_)
  have C : VC Y X RX3 cX3_empty 1 none 0 0 := C
  refine vv_sub [0] (L' := [(0, .ref (vv_q Y d))]) rfl ?_
  refine vv_aload_n C 0 dX3_empty_0 rfl rfl ?_
  refine vv_iconst C dX3_empty_1 ki_0 ?_
  refine vv_puti C kc_X3 (s_X3 hY hd) 4 (by decide) rfl pf_X3_4 fk_X3_34 dX3_empty_2 (fun σ1 eσ1 => ?_)
  replace h := h σ1 eσ1
  exact vv_vret C dX3_empty_5 h
set_option maxHeartbeats 2000000 in
set_option maxRecDepth 100000 in
theorem mX3_breachesAt {Y : vv_Y} (hY : Y.2.2.2.2 = wC) {d : Nat} (hd : is_X3 d) {a1 : Int32} {σ : vv_S} {post : Int32 → vv_S → Prop} (h : wX3_breachesAt d a1 σ post) : vv_MI Y yX3_breachesAt cX3_breachesAt 2 (some .int) 0 0 [.ref (vv_q Y d), .int a1] σ post := by
  refine vv_ofI (by decide) (Nat.le_of_ble_eq_true rfl) (fun X C => ?_)
  have C : VC Y X RX3 cX3_breachesAt 2 (some .int) 0 0 := C
  refine vv_sub [0, 1] (L' := [(0, .ref (vv_q Y d)), (1, .int a1)]) rfl ?_
  refine vv_iload_n C 1 dX3_breachesAt_0 rfl rfl ?_
  refine vv_join (fun k => ∀ (v1 : Int32), k v1 → VJ Y X (va_Qi post (vv_B Y) X.2) 2 20 [] [.int v1] σ) h (fun v1 h => ?_) (fun k20_1 hJk20_1 h => ?_)
  · exact vv_iret C dX3_breachesAt_20 h
  · refine vv_join (fun k =>  k → VJ Y X (va_Qi post (vv_B Y) X.2) 2 19 [] [] σ) h (fun h => ?_) (fun k19_2 hJk19_2 h => ?_)
    · refine vv_iconst C dX3_breachesAt_19 ki_0 ?_
      refine vv_sub [] (L' := []) rfl ?_
      exact hJk20_1 _ h
    · refine vv_if_lt (pc := 1) C 19 dX3_breachesAt_1 (by decide) (fun hc4 => ?_) (fun hc4 => ?_)
      · replace h := h.1 hc4
        refine vv_sub [] (L' := []) rfl ?_
        exact hJk19_2 h
      · replace h := h.2 hc4
        refine vv_iload_n C 1 dX3_breachesAt_4 rfl rfl ?_
        refine vv_bipush C dX3_breachesAt_5 kb_8 ?_
        refine vv_icmp_ge (pc := 7) C 19 dX3_breachesAt_7 (by decide) (fun hc5 => ?_) (fun hc5 => ?_)
        · replace h := h.1 hc5
          refine vv_sub [] (L' := []) rfl ?_
          exact hJk19_2 h
        · replace h := h.2 hc5
          refine vv_aload_n C 0 dX3_breachesAt_10 rfl rfl ?_
          refine vv_getr (r := (d + 3)) C kc_X3 (s_X3 hY hd) 3 (by decide) rfl fk_X3_18 dX3_breachesAt_11 ?_
          refine vv_iload_n C 1 dX3_breachesAt_14 rfl rfl ?_
          obtain ⟨hi6, h⟩ := h
          refine vv_iald C (a_X3_breaches hY hd) hi6 rfl dX3_breachesAt_15 ?_
          refine vv_goto (pc := 16) (tgt := 20) C dX3_breachesAt_16 (by decide) ?_
          refine vv_sub [] (L' := []) rfl ?_
          exact hJk20_1 _ h
set_option maxHeartbeats 2000000 in
set_option maxRecDepth 100000 in
theorem mX3_allBreaches {Y : vv_Y} (hY : Y.2.2.2.2 = wC) {d : Nat} (hd : is_X3 d) {σ : vv_S} {post : Int32 → vv_S → Prop} (h : wX3_allBreaches d σ post) : vv_MI Y yX3_allBreaches cX3_allBreaches 3 (some .int) 0 0 [.ref (vv_q Y d)] σ post := by
  refine vv_ofI (by decide) (Nat.le_of_ble_eq_true rfl) (fun X C => ?_)
  have C : VC Y X RX3 cX3_allBreaches 3 (some .int) 0 0 := C
  refine vv_sub [0] (L' := [(0, .ref (vv_q Y d))]) rfl ?_
  refine vv_iconst C dX3_allBreaches_0 ki_0 ?_
  refine vv_istore_n (L' := [(1, .int (0 : Int32)), (0, .ref (vv_q Y d))]) C dX3_allBreaches_1 rfl (by decide) rfl ?_
  refine vv_iconst C dX3_allBreaches_2 ki_0 ?_
  refine vv_istore_n (L' := [(2, .int (0 : Int32)), (1, .int (0 : Int32)), (0, .ref (vv_q Y d))]) C dX3_allBreaches_3 rfl (by decide) rfl ?_
  obtain ⟨n3, h⟩ := h
  have hl1 : ∀ (n3 : Nat) (v1 : Int32) (v2 : Int32), lX3_allBreaches_1 post σ d n3 v1 v2 → VJ Y X (va_Qi post (vv_B Y) X.2) 3 4 [(0, .ref (vv_q Y d)), (1, .int v1), (2, .int v2)] [] σ := by
    clear h
    intro n3
    induction n3 with
    | zero => intro v1 v2 h; exact False.elim h
    | succ n3 ih1 =>
      intro v1 v2 h
      refine vv_iload_n C 2 dX3_allBreaches_4 rfl rfl ?_
      refine vv_bipush C dX3_allBreaches_5 kb_8 ?_
      refine vv_icmp_ge (pc := 7) C 25 dX3_allBreaches_7 (by decide) (fun hc4 => ?_) (fun hc4 => ?_)
      · replace h := h.1 hc4
        refine vv_iload_n C 1 dX3_allBreaches_25 rfl rfl ?_
        exact vv_iret C dX3_allBreaches_26 h
      · replace h := h.2 hc4
        refine vv_iload_n C 1 dX3_allBreaches_10 rfl rfl ?_
        refine vv_aload_n C 0 dX3_allBreaches_11 rfl rfl ?_
        refine vv_getr (r := (d + 3)) C kc_X3 (s_X3 hY hd) 3 (by decide) rfl fk_X3_18 dX3_allBreaches_12 ?_
        refine vv_iload_n C 2 dX3_allBreaches_15 rfl rfl ?_
        obtain ⟨hi5, h⟩ := h
        refine vv_iald C (a_X3_breaches hY hd) hi5 rfl dX3_allBreaches_16 ?_
        refine vv_iadd C dX3_allBreaches_17 ?_
        refine vv_nm (fun v6 ev6 => ?_)
        replace h := h v6 ev6
        refine vv_istore_n (L' := [(1, .int v6), (0, .ref (vv_q Y d)), (2, .int v2)]) C dX3_allBreaches_18 rfl (by decide) rfl ?_
        obtain ⟨v7, ev7⟩ : ∃ z : Int32, z = v2 + (1 : Int32) := ⟨_, rfl⟩
        replace h := h v7 ev7
        refine vv_iinc (v := v7) (L' := [(2, .int v7), (1, .int v6), (0, .ref (vv_q Y d))]) C 2 dX3_allBreaches_19 rfl ((kinc ki_1).trans ev7.symm) (by decide) rfl ?_
        refine vv_goto (pc := 22) (tgt := 4) C dX3_allBreaches_22 (by decide) ?_
        refine vv_sub [2, 1, 0] (L' := [(0, .ref (vv_q Y d)), (1, .int v6), (2, .int v7)]) rfl ?_
        exact ih1 _ _ h
  refine vv_sub [2, 1, 0] (L' := [(0, .ref (vv_q Y d)), (1, .int (0 : Int32)), (2, .int (0 : Int32))]) rfl ?_
  exact hl1 n3 _ _ h
set_option maxHeartbeats 2000000 in
set_option maxRecDepth 100000 in
theorem mX3_wasBreached {Y : vv_Y} (hY : Y.2.2.2.2 = wC) {d : Nat} (hd : is_X3 d) {σ : vv_S} {post : Int32 → vv_S → Prop} (h : wX3_wasBreached d σ post) : vv_MI Y yX3_wasBreached cX3_wasBreached 1 (some .boolean) 1 22 [.ref (vv_q Y d)] σ post := by
  refine vv_ofI (by decide) (Nat.le_of_ble_eq_true rfl) (fun X C => ?_)
  have C : VC Y X RX3 cX3_wasBreached 1 (some .boolean) 1 22 := C
  refine vv_sub [0] (L' := [(0, .ref (vv_q Y d))]) rfl ?_
  refine vv_aload_n C 0 dX3_wasBreached_0 rfl rfl ?_
  refine vv_callI (rest := []) C yk_X3_allBreaches vk_X3_allBreaches lk_X3_126 kc_X3.1 (s_X3 hY hd) dX3_wasBreached_1 (mX3_allBreaches hY hd h) rfl rfl ⟨Nat.le_of_ble_eq_true rfl, Nat.le_of_ble_eq_true rfl⟩ (Nat.le_of_ble_eq_true rfl) (fun r2 σ1 h => ?_)
  refine vv_join (fun k => ∀ (v3 : Int32), k v3 → VJ Y X (va_Qi post (vv_B Y) X.2) 1 12 [] [.int v3] σ1) h (fun v3 h => ?_) (fun k12_3 hJk12_3 h => ?_)
  · exact vv_zret C h.1 dX3_wasBreached_12 h.2
  · refine vv_if_le (pc := 4) C 11 dX3_wasBreached_4 (by decide) (fun hc5 => ?_) (fun hc5 => ?_)
    · replace h := h.1 hc5
      refine vv_iconst C dX3_wasBreached_11 ki_0 ?_
      refine vv_sub [] (L' := []) rfl ?_
      exact hJk12_3 _ h
    · replace h := h.2 hc5
      refine vv_iconst C dX3_wasBreached_7 ki_1 ?_
      refine vv_goto (pc := 8) (tgt := 12) C dX3_wasBreached_8 (by decide) ?_
      refine vv_sub [] (L' := []) rfl ?_
      exact hJk12_3 _ h
set_option maxHeartbeats 2000000 in
set_option maxRecDepth 100000 in
theorem mX3_level {Y : vv_Y} (hY : Y.2.2.2.2 = wC) {d : Nat} (hd : is_X3 d) {σ : vv_S} {post : Int32 → vv_S → Prop} (h : wX3_level d σ post) : vv_MI Y yX3_level cX3_level 1 (some .int) 2 45 [.ref (vv_q Y d)] σ post := by
  refine vv_ofI (by decide) (Nat.le_of_ble_eq_true rfl) (fun X C => ?_)
  have C : VC Y X RX3 cX3_level 1 (some .int) 2 45 := C
  refine vv_sub [0] (L' := [(0, .ref (vv_q Y d))]) rfl ?_
  refine vv_aload_n C 0 dX3_level_0 rfl rfl ?_
  refine vv_getr (r := 4) C kc_X3 (s_X3 hY hd) 0 (by decide) rfl fk_X3_21 dX3_level_1 ?_
  refine vv_aload_n C 0 dX3_level_4 rfl rfl ?_
  refine vv_geti C kc_X3 (s_X3 hY hd) 4 (by decide) rfl fk_X3_34 dX3_level_5 ?_
  refine vv_callI (rest := []) C yk_X4_levelOf vk_X4_levelOf lk_X3_93 kc_X4.1 (s_X4 hY (show is_X4 4 by decide)) dX3_level_8 (mX4_levelOf hY (show is_X4 4 by decide) h) rfl rfl ⟨Nat.le_of_ble_eq_true rfl, Nat.le_of_ble_eq_true rfl⟩ (Nat.le_of_ble_eq_true rfl) (fun r2 σ1 h => ?_)
  exact vv_iret C dX3_level_11 h
set_option maxHeartbeats 2000000 in
set_option maxRecDepth 100000 in
theorem mX3_units {Y : vv_Y} (hY : Y.2.2.2.2 = wC) {d : Nat} (hd : is_X3 d) {σ : vv_S} {post : Int32 → vv_S → Prop} (h : wX3_units d σ post) : vv_MI Y yX3_units cX3_units 1 (some .int) 0 0 [.ref (vv_q Y d)] σ post := by
  refine vv_ofI (by decide) (Nat.le_of_ble_eq_true rfl) (fun X C => ?_)
  have C : VC Y X RX3 cX3_units 1 (some .int) 0 0 := C
  refine vv_sub [0] (L' := [(0, .ref (vv_q Y d))]) rfl ?_
  refine vv_aload_n C 0 dX3_units_0 rfl rfl ?_
  refine vv_geti C kc_X3 (s_X3 hY hd) 4 (by decide) rfl fk_X3_34 dX3_units_1 ?_
  exact vv_iret C dX3_units_4 h
set_option maxHeartbeats 2000000 in
set_option maxRecDepth 100000 in
theorem mX3_minutesGone {Y : vv_Y} (hY : Y.2.2.2.2 = wC) {d : Nat} (hd : is_X3 d) {σ : vv_S} {post : Int32 → vv_S → Prop} (h : wX3_minutesGone d σ post) : vv_MI Y yX3_minutesGone cX3_minutesGone 1 (some .int) 0 0 [.ref (vv_q Y d)] σ post := by
  refine vv_ofI (by decide) (Nat.le_of_ble_eq_true rfl) (fun X C => ?_)
  have C : VC Y X RX3 cX3_minutesGone 1 (some .int) 0 0 := C
  refine vv_sub [0] (L' := [(0, .ref (vv_q Y d))]) rfl ?_
  refine vv_aload_n C 0 dX3_minutesGone_0 rfl rfl ?_
  refine vv_geti C kc_X3 (s_X3 hY hd) 5 (by decide) rfl fk_X3_38 dX3_minutesGone_1 ?_
  exact vv_iret C dX3_minutesGone_4 h
set_option maxHeartbeats 2000000 in
set_option maxRecDepth 100000 in
theorem mX3_allOver {Y : vv_Y} (hY : Y.2.2.2.2 = wC) {d : Nat} (hd : is_X3 d) {σ : vv_S} {post : Int32 → vv_S → Prop} (h : wX3_allOver d σ post) : vv_MI Y yX3_allOver cX3_allOver 1 (some .int) 0 0 [.ref (vv_q Y d)] σ post := by
  refine vv_ofI (by decide) (Nat.le_of_ble_eq_true rfl) (fun X C => ?_)
  have C : VC Y X RX3 cX3_allOver 1 (some .int) 0 0 := C
  refine vv_sub [0] (L' := [(0, .ref (vv_q Y d))]) rfl ?_
  refine vv_aload_n C 0 dX3_allOver_0 rfl rfl ?_
  refine vv_geti C kc_X3 (s_X3 hY hd) 6 (by decide) rfl fk_X3_41 dX3_allOver_1 ?_
  exact vv_iret C dX3_allOver_4 h
set_option maxHeartbeats 2000000 in
set_option maxRecDepth 100000 in
theorem mX3_allSeeped {Y : vv_Y} (hY : Y.2.2.2.2 = wC) {d : Nat} (hd : is_X3 d) {σ : vv_S} {post : Int32 → vv_S → Prop} (h : wX3_allSeeped d σ post) : vv_MI Y yX3_allSeeped cX3_allSeeped 1 (some .int) 0 0 [.ref (vv_q Y d)] σ post := by
  refine vv_ofI (by decide) (Nat.le_of_ble_eq_true rfl) (fun X C => ?_)
  have C : VC Y X RX3 cX3_allSeeped 1 (some .int) 0 0 := C
  refine vv_sub [0] (L' := [(0, .ref (vv_q Y d))]) rfl ?_
  refine vv_aload_n C 0 dX3_allSeeped_0 rfl rfl ?_
  refine vv_geti C kc_X3 (s_X3 hY hd) 7 (by decide) rfl fk_X3_44 dX3_allSeeped_1 ?_
  exact vv_iret C dX3_allSeeped_4 h
set_option maxHeartbeats 2000000 in
set_option maxRecDepth 100000 in
theorem mX3_edgeHeight {Y : vv_Y} (hY : Y.2.2.2.2 = wC) {d : Nat} (hd : is_X3 d) {σ : vv_S} {post : Int32 → vv_S → Prop} (h : wX3_edgeHeight d σ post) : vv_MI Y yX3_edgeHeight cX3_edgeHeight 1 (some .int) 0 0 [.ref (vv_q Y d)] σ post := by
  refine vv_ofI (by decide) (Nat.le_of_ble_eq_true rfl) (fun X C => ?_)
  have C : VC Y X RX3 cX3_edgeHeight 1 (some .int) 0 0 := C
  refine vv_sub [0] (L' := [(0, .ref (vv_q Y d))]) rfl ?_
  refine vv_aload_n C 0 dX3_edgeHeight_0 rfl rfl ?_
  refine vv_geti C kc_X3 (s_X3 hY hd) 8 (by decide) rfl fk_X3_63 dX3_edgeHeight_1 ?_
  exact vv_iret C dX3_edgeHeight_4 h
set_option maxHeartbeats 2000000 in
set_option maxRecDepth 100000 in
theorem mX3_lowestPlace {Y : vv_Y} (hY : Y.2.2.2.2 = wC) {d : Nat} (hd : is_X3 d) {σ : vv_S} {post : Int32 → vv_S → Prop} (h : wX3_lowestPlace d σ post) : vv_MI Y yX3_lowestPlace cX3_lowestPlace 1 (some .int) 0 0 [.ref (vv_q Y d)] σ post := by
  refine vv_ofI (by decide) (Nat.le_of_ble_eq_true rfl) (fun X C => ?_)
  have C : VC Y X RX3 cX3_lowestPlace 1 (some .int) 0 0 := C
  refine vv_sub [0] (L' := [(0, .ref (vv_q Y d))]) rfl ?_
  refine vv_aload_n C 0 dX3_lowestPlace_0 rfl rfl ?_
  refine vv_geti C kc_X3 (s_X3 hY hd) 9 (by decide) rfl fk_X3_66 dX3_lowestPlace_1 ?_
  exact vv_iret C dX3_lowestPlace_4 h
set_option maxHeartbeats 2000000 in
set_option maxRecDepth 100000 in
theorem mX3_overInMinute {Y : vv_Y} (hY : Y.2.2.2.2 = wC) {d : Nat} (hd : is_X3 d) {σ : vv_S} {post : Int32 → vv_S → Prop} (h : wX3_overInMinute d σ post) : vv_MI Y yX3_overInMinute cX3_overInMinute 1 (some .int) 0 0 [.ref (vv_q Y d)] σ post := by
  refine vv_ofI (by decide) (Nat.le_of_ble_eq_true rfl) (fun X C => ?_)
  have C : VC Y X RX3 cX3_overInMinute 1 (some .int) 0 0 := C
  refine vv_sub [0] (L' := [(0, .ref (vv_q Y d))]) rfl ?_
  refine vv_aload_n C 0 dX3_overInMinute_0 rfl rfl ?_
  refine vv_geti C kc_X3 (s_X3 hY hd) 13 (by decide) rfl fk_X3_99 dX3_overInMinute_1 ?_
  exact vv_iret C dX3_overInMinute_4 h
set_option maxHeartbeats 2000000 in
set_option maxRecDepth 100000 in
theorem mX3_placeOver {Y : vv_Y} (hY : Y.2.2.2.2 = wC) {d : Nat} (hd : is_X3 d) {σ : vv_S} {post : Int32 → vv_S → Prop} (h : wX3_placeOver d σ post) : vv_MI Y yX3_placeOver cX3_placeOver 1 (some .int) 0 0 [.ref (vv_q Y d)] σ post := by
  refine vv_ofI (by decide) (Nat.le_of_ble_eq_true rfl) (fun X C => ?_)
  have C : VC Y X RX3 cX3_placeOver 1 (some .int) 0 0 := C
  refine vv_sub [0] (L' := [(0, .ref (vv_q Y d))]) rfl ?_
  refine vv_aload_n C 0 dX3_placeOver_0 rfl rfl ?_
  refine vv_geti C kc_X3 (s_X3 hY hd) 14 (by decide) rfl fk_X3_102 dX3_placeOver_1 ?_
  exact vv_iret C dX3_placeOver_4 h
set_option maxHeartbeats 2000000 in
set_option maxRecDepth 100000 in
theorem mX3_breachedCell {Y : vv_Y} (hY : Y.2.2.2.2 = wC) {d : Nat} (hd : is_X3 d) {σ : vv_S} {post : Int32 → vv_S → Prop} (h : wX3_breachedCell d σ post) : vv_MI Y yX3_breachedCell cX3_breachedCell 1 (some .int) 0 0 [.ref (vv_q Y d)] σ post := by
  refine vv_ofI (by decide) (Nat.le_of_ble_eq_true rfl) (fun X C => ?_)
  have C : VC Y X RX3 cX3_breachedCell 1 (some .int) 0 0 := C
  refine vv_sub [0] (L' := [(0, .ref (vv_q Y d))]) rfl ?_
  refine vv_aload_n C 0 dX3_breachedCell_0 rfl rfl ?_
  refine vv_geti C kc_X3 (s_X3 hY hd) 15 (by decide) rfl fk_X3_105 dX3_breachedCell_1 ?_
  exact vv_iret C dX3_breachedCell_4 h
set_option maxHeartbeats 2000000 in
set_option maxRecDepth 100000 in
theorem mX4_clear {Y : vv_Y} (hY : Y.2.2.2.2 = wC) {d : Nat} (hd : is_X4 d) {σ : vv_S} {post : vv_S → Prop} (h : wX4_clear d σ post) : vv_MV Y yX4_clear cX4_clear 1 none 1 20 [.ref (vv_q Y d)] σ post := by
  refine vv_ofV (by decide) (Nat.le_of_ble_eq_true rfl) (fun X C => ?_)
  have C : VC Y X RX4 cX4_clear 1 none 1 20 := C
  refine vv_sub [0] (L' := [(0, .ref (vv_q Y d))]) rfl ?_
  refine vv_aload_n C 0 dX4_clear_0 rfl rfl ?_
  refine vv_iconst C dX4_clear_1 ki_0 ?_
  refine vv_puti C kc_X4 (s_X4 hY hd) 2 (by decide) rfl pf_X4_2 fk_X4_55 dX4_clear_2 (fun σ1 eσ1 => ?_)
  replace h := h σ1 eσ1
  refine vv_aload_n C 0 dX4_clear_5 rfl rfl ?_
  refine vv_bipush C dX4_clear_6 kb_20 ?_
  refine vv_puti C kc_X4 (s_X4 hY hd) 3 (by decide) rfl pf_X4_3 fk_X4_59 dX4_clear_8 (fun σ2 eσ2 => ?_)
  replace h := h σ2 eσ2
  refine vv_aload_n C 0 dX4_clear_11 rfl rfl ?_
  refine vv_bipush C dX4_clear_12 kb_20 ?_
  refine vv_puti C kc_X4 (s_X4 hY hd) 4 (by decide) rfl pf_X4_4 fk_X4_62 dX4_clear_14 (fun σ3 eσ3 => ?_)
  replace h := h σ3 eσ3
  refine vv_aload_n C 0 dX4_clear_17 rfl rfl ?_
  refine vv_bipush C dX4_clear_18 kb_6 ?_
  refine vv_puti C kc_X4 (s_X4 hY hd) 5 (by decide) rfl pf_X4_5 fk_X4_65 dX4_clear_20 (fun σ4 eσ4 => ?_)
  replace h := h σ4 eσ4
  refine vv_aload_n C 0 dX4_clear_23 rfl rfl ?_
  refine vv_iconst C dX4_clear_24 ki_1 ?_
  refine vv_puti C kc_X4 (s_X4 hY hd) 6 (by decide) rfl pf_X4_6 fk_X4_68 dX4_clear_25 (fun σ5 eσ5 => ?_)
  replace h := h σ5 eσ5
  refine vv_aload_n C 0 dX4_clear_28 rfl rfl ?_
  refine vv_getr (r := (d + 3)) C kc_X4 (s_X4 hY hd) 7 (by decide) rfl fk_X4_21 dX4_clear_29 ?_
  refine vv_callV (rest := []) C yk_X1_clear vk_X1_clear lk_X4_71 kc_X1.1 (s_X1 hY (is_X1_of hd)) dX4_clear_32 (mX1_clear hY (is_X1_of hd) h) rfl rfl ⟨Nat.le_of_ble_eq_true rfl, Nat.le_of_ble_eq_true rfl⟩ (Nat.le_of_ble_eq_true rfl) (fun σ6 h => ?_)
  refine vv_aload_n C 0 dX4_clear_35 rfl rfl ?_
  refine vv_getr (r := (d + 10)) C kc_X4 (s_X4 hY hd) 8 (by decide) rfl fk_X4_28 dX4_clear_36 ?_
  refine vv_callV (rest := []) C yk_X2_clear vk_X2_clear lk_X4_72 kc_X2.1 (s_X2 hY (is_X2_of hd)) dX4_clear_39 (mX2_clear hY (is_X2_of hd) h) rfl rfl ⟨Nat.le_of_ble_eq_true rfl, Nat.le_of_ble_eq_true rfl⟩ (Nat.le_of_ble_eq_true rfl) (fun σ7 h => ?_)
  exact vv_vret C dX4_clear_42 h
set_option maxHeartbeats 2000000 in
set_option maxRecDepth 100000 in
theorem mX7_size {Y : vv_Y} (hY : Y.2.2.2.2 = wC)  {σ : vv_S} {post : Int32 → vv_S → Prop} (h : wX7_size σ post) : vv_MI Y yX7_size cX7_size 1 (some .int) 0 0 [.ref (vv_q Y 1)] σ post := by
  refine vv_ofI (by decide) (Nat.le_of_ble_eq_true rfl) (fun X C => ?_)
  have C : VC Y X RX7 cX7_size 1 (some .int) 0 0 := C
  refine vv_sub [0] (L' := [(0, .ref (vv_q Y 1))]) rfl ?_
  refine vv_aload_n C 0 dX7_size_0 rfl rfl ?_
  refine vv_geti C kc_X7 (s_X7 hY) 1 (by decide) rfl fk_X7_18 dX7_size_1 ?_
  exact vv_iret C dX7_size_4 h
set_option maxHeartbeats 2000000 in
set_option maxRecDepth 100000 in
theorem mX7_letterAt {Y : vv_Y} (hY : Y.2.2.2.2 = wC) {a1 : Int32} {σ : vv_S} {post : Int32 → vv_S → Prop} (h : wX7_letterAt a1 σ post) : vv_MI Y yX7_letterAt cX7_letterAt 2 (some .int) 0 0 [.ref (vv_q Y 1), .int a1] σ post := by
  refine vv_ofI (by decide) (Nat.le_of_ble_eq_true rfl) (fun X C => ?_)
  have C : VC Y X RX7 cX7_letterAt 2 (some .int) 0 0 := C
  refine vv_sub [0, 1] (L' := [(0, .ref (vv_q Y 1)), (1, .int a1)]) rfl ?_
  refine vv_iload_n C 1 dX7_letterAt_0 rfl rfl ?_
  refine vv_join (fun k => ∀ (v1 : Int32), k v1 → VJ Y X (va_Qi post (vv_B Y) X.2) 2 29 [] [.int v1] σ) h (fun v1 h => ?_) (fun k29_1 hJk29_1 h => ?_)
  · exact vv_iret C dX7_letterAt_29 h
  · refine vv_join (fun k =>  k → VJ Y X (va_Qi post (vv_B Y) X.2) 2 28 [] [] σ) h (fun h => ?_) (fun k28_2 hJk28_2 h => ?_)
    · refine vv_iconst C dX7_letterAt_28 ki_0 ?_
      refine vv_sub [] (L' := []) rfl ?_
      exact hJk29_1 _ h
    · refine vv_if_lt (pc := 1) C 28 dX7_letterAt_1 (by decide) (fun hc4 => ?_) (fun hc4 => ?_)
      · replace h := h.1 hc4
        refine vv_sub [] (L' := []) rfl ?_
        exact hJk28_2 h
      · replace h := h.2 hc4
        refine vv_iload_n C 1 dX7_letterAt_4 rfl rfl ?_
        refine vv_aload_n C 0 dX7_letterAt_5 rfl rfl ?_
        refine vv_geti C kc_X7 (s_X7 hY) 1 (by decide) rfl fk_X7_18 dX7_letterAt_6 ?_
        refine vv_icmp_ge (pc := 9) C 28 dX7_letterAt_9 (by decide) (fun hc5 => ?_) (fun hc5 => ?_)
        · replace h := h.1 hc5
          refine vv_sub [] (L' := []) rfl ?_
          exact hJk28_2 h
        · replace h := h.2 hc5
          refine vv_iload_n C 1 dX7_letterAt_12 rfl rfl ?_
          refine vv_sipush C dX7_letterAt_13 ks_200 ?_
          refine vv_icmp_ge (pc := 16) C 28 dX7_letterAt_16 (by decide) (fun hc6 => ?_) (fun hc6 => ?_)
          · replace h := h.1 hc6
            refine vv_sub [] (L' := []) rfl ?_
            exact hJk28_2 h
          · replace h := h.2 hc6
            refine vv_aload_n C 0 dX7_letterAt_19 rfl rfl ?_
            refine vv_getr (r := 2) C kc_X7 (s_X7 hY) 0 (by decide) rfl fk_X7_9 dX7_letterAt_20 ?_
            refine vv_iload_n C 1 dX7_letterAt_23 rfl rfl ?_
            obtain ⟨hi7, h⟩ := h
            refine vv_iald C (a_X7_letters hY) hi7 rfl dX7_letterAt_24 ?_
            refine vv_goto (pc := 25) (tgt := 29) C dX7_letterAt_25 (by decide) ?_
            refine vv_sub [] (L' := []) rfl ?_
            exact hJk29_1 _ h
set_option maxHeartbeats 2000000 in
set_option maxRecDepth 100000 in
theorem mX7_figureAt {Y : vv_Y} (hY : Y.2.2.2.2 = wC) {a1 : Int32} {σ : vv_S} {post : Int32 → vv_S → Prop} (h : wX7_figureAt a1 σ post) : vv_MI Y yX7_figureAt cX7_figureAt 3 (some .int) 1 21 [.ref (vv_q Y 1), .int a1] σ post := by
  refine vv_ofI (by decide) (Nat.le_of_ble_eq_true rfl) (fun X C => ?_)
  have C : VC Y X RX7 cX7_figureAt 3 (some .int) 1 21 := C
  refine vv_sub [0, 1] (L' := [(0, .ref (vv_q Y 1)), (1, .int a1)]) rfl ?_
  refine vv_aload_n C 0 dX7_figureAt_0 rfl rfl ?_
  refine vv_iload_n C 1 dX7_figureAt_1 rfl rfl ?_
  refine vv_callI (rest := []) C yk_X7_letterAt vk_X7_letterAt lk_X7_32 kc_X7.1 (s_X7 hY) dX7_figureAt_2 (mX7_letterAt hY h) rfl rfl ⟨Nat.le_of_ble_eq_true rfl, Nat.le_of_ble_eq_true rfl⟩ (Nat.le_of_ble_eq_true rfl) (fun r2 σ1 h => ?_)
  refine vv_istore_n (L' := [(2, .int r2), (0, .ref (vv_q Y 1)), (1, .int a1)]) C dX7_figureAt_5 rfl (by decide) rfl ?_
  refine vv_iload_n C 0 dX7_figureAt_6 rfl rfl ?_
  refine vv_bipush C dX7_figureAt_7 kb_48 ?_
  refine vv_join (fun k => ∀ (v3 : Int32), k v3 → VJ Y X (va_Qi post (vv_B Y) X.2) 3 27 [] [.int v3] σ1) h (fun v3 h => ?_) (fun k27_3 hJk27_3 h => ?_)
  · exact vv_iret C dX7_figureAt_27 h
  · refine vv_join (fun k =>  k → VJ Y X (va_Qi post (vv_B Y) X.2) 3 25 [] [] σ1) h (fun h => ?_) (fun k25_4 hJk25_4 h => ?_)
    · refine vv_bipush C dX7_figureAt_25 kb_m4 ?_
      refine vv_sub [] (L' := []) rfl ?_
      exact hJk27_3 _ h
    · refine vv_icmp_lt (pc := 9) C 25 dX7_figureAt_9 (by decide) (fun hc6 => ?_) (fun hc6 => ?_)
      · replace h := h.1 hc6
        refine vv_sub [] (L' := []) rfl ?_
        exact hJk25_4 h
      · replace h := h.2 hc6
        refine vv_iload_n C 0 dX7_figureAt_12 rfl rfl ?_
        refine vv_bipush C dX7_figureAt_13 kb_57 ?_
        refine vv_icmp_gt (pc := 15) C 25 dX7_figureAt_15 (by decide) (fun hc7 => ?_) (fun hc7 => ?_)
        · replace h := h.1 hc7
          refine vv_sub [] (L' := []) rfl ?_
          exact hJk25_4 h
        · replace h := h.2 hc7
          refine vv_iload_n C 0 dX7_figureAt_18 rfl rfl ?_
          refine vv_bipush C dX7_figureAt_19 kb_48 ?_
          refine vv_isub C dX7_figureAt_21 ?_
          refine vv_goto (pc := 22) (tgt := 27) C dX7_figureAt_22 (by decide) ?_
          refine vv_sub [] (L' := []) rfl ?_
          exact hJk27_3 _ h
set_option maxHeartbeats 2000000 in
set_option maxRecDepth 100000 in
theorem mX7_figuresAt {Y : vv_Y} (hY : Y.2.2.2.2 = wC) {a1 : Int32} {σ : vv_S} {post : Int32 → vv_S → Prop} (h : wX7_figuresAt a1 σ post) : vv_MI Y yX7_figuresAt cX7_figuresAt 2 (some .int) 2 43 [.ref (vv_q Y 1), .int a1] σ post := by
  refine vv_ofI (by decide) (Nat.le_of_ble_eq_true rfl) (fun X C => ?_)
  have C : VC Y X RX7 cX7_figuresAt 2 (some .int) 2 43 := C
  refine vv_sub [0, 1] (L' := [(0, .ref (vv_q Y 1)), (1, .int a1)]) rfl ?_
  refine vv_aload_n C 0 dX7_figuresAt_0 rfl rfl ?_
  refine vv_iload_n C 1 dX7_figuresAt_1 rfl rfl ?_
  refine vv_callI (rest := []) C yk_X7_figureAt vk_X7_figureAt lk_X7_29 kc_X7.1 (s_X7 hY) dX7_figuresAt_2 (mX7_figureAt hY h) rfl rfl ⟨Nat.le_of_ble_eq_true rfl, Nat.le_of_ble_eq_true rfl⟩ (Nat.le_of_ble_eq_true rfl) (fun r2 σ1 h => ?_)
  refine vv_bipush C dX7_figuresAt_5 kb_m4 ?_
  refine vv_icmp_ne (pc := 7) C 12 dX7_figuresAt_7 (by decide) (fun hc3 => ?_) (fun hc3 => ?_)
  · replace h := h.1 hc3
    refine vv_aload_n C 0 dX7_figuresAt_12 rfl rfl ?_
    refine vv_iload_n C 1 dX7_figuresAt_13 rfl rfl ?_
    refine vv_iconst C dX7_figuresAt_14 ki_1 ?_
    refine vv_iadd C dX7_figuresAt_15 ?_
    refine vv_callI (rest := []) C yk_X7_figureAt vk_X7_figureAt lk_X7_29 kc_X7.1 (s_X7 hY) dX7_figuresAt_16 (mX7_figureAt hY h) rfl rfl ⟨Nat.le_of_ble_eq_true rfl, Nat.le_of_ble_eq_true rfl⟩ (Nat.le_of_ble_eq_true rfl) (fun r5 σ4 h => ?_)
    refine vv_bipush C dX7_figuresAt_19 kb_m4 ?_
    refine vv_join (fun k => ∀ (v6 : Int32), k v6 → VJ Y X (va_Qi post (vv_B Y) X.2) 2 29 [] [.int v6] σ4) h (fun v6 h => ?_) (fun k29_6 hJk29_6 h => ?_)
    · exact vv_iret C dX7_figuresAt_29 h
    · refine vv_icmp_ne (pc := 21) C 28 dX7_figuresAt_21 (by decide) (fun hc8 => ?_) (fun hc8 => ?_)
      · replace h := h.1 hc8
        refine vv_iconst C dX7_figuresAt_28 ki_2 ?_
        refine vv_sub [] (L' := []) rfl ?_
        exact hJk29_6 _ h
      · replace h := h.2 hc8
        refine vv_iconst C dX7_figuresAt_24 ki_1 ?_
        refine vv_goto (pc := 25) (tgt := 29) C dX7_figuresAt_25 (by decide) ?_
        refine vv_sub [] (L' := []) rfl ?_
        exact hJk29_6 _ h
  · replace h := h.2 hc3
    refine vv_iconst C dX7_figuresAt_10 ki_0 ?_
    exact vv_iret C dX7_figuresAt_11 h
set_option maxHeartbeats 2000000 in
set_option maxRecDepth 100000 in
theorem mX7_readItem {Y : vv_Y} (hY : Y.2.2.2.2 = wC) {a1 : Int32} {σ : vv_S} {post : Int32 → vv_S → Prop} (h : wX7_readItem a1 σ post) : vv_MI Y yX7_readItem cX7_readItem 6 (some .int) 3 64 [.ref (vv_q Y 1), .int a1] σ post := by
  refine vv_ofI (by decide) (Nat.le_of_ble_eq_true rfl) (fun X C => ?_)
  have C : VC Y X RX7 cX7_readItem 6 (some .int) 3 64 := C
  refine vv_sub [0, 1] (L' := [(0, .ref (vv_q Y 1)), (1, .int a1)]) rfl ?_
  refine vv_iload_n C 1 dX7_readItem_0 rfl rfl ?_
  refine vv_iconst C dX7_readItem_1 ki_1 ?_
  refine vv_iadd C dX7_readItem_2 ?_
  refine vv_nm (fun v1 ev1 => ?_)
  replace h := h v1 ev1
  refine vv_istore_n (L' := [(2, .int v1), (0, .ref (vv_q Y 1)), (1, .int a1)]) C dX7_readItem_3 rfl (by decide) rfl ?_
  refine vv_aload_n C 1 dX7_readItem_4 rfl rfl ?_
  refine vv_iconst C dX7_readItem_5 ki_0 ?_
  refine vv_puti C kc_X7 (s_X7 hY) 3 (by decide) rfl pf_X7_3 fk_X7_22 dX7_readItem_6 (fun σ2 eσ2 => ?_)
  replace h := h σ2 eσ2
  refine vv_iconst C dX7_readItem_9 ki_0 ?_
  refine vv_istore_n (L' := [(3, .int (0 : Int32)), (2, .int v1), (0, .ref (vv_q Y 1)), (1, .int a1)]) C dX7_readItem_10 rfl (by decide) rfl ?_
  obtain ⟨n6, h⟩ := h
  have hl1 : ∀ (n6 : Nat) (v3 : Int32) (v4 : Int32) (σ5 : vv_S), lX7_readItem_1 post n6 v3 v4 σ5 → VJ Y X (va_Qi post (vv_B Y) X.2) 6 11 [(0, .ref (vv_q Y 1)), (2, .int v3), (3, .int v4)] [] σ5 := by
    clear h
    intro n6
    induction n6 with
    | zero => intro v3 v4 σ5 h; exact False.elim h
    | succ n6 ih1 =>
      intro v3 v4 σ5 h
      refine vv_iload_n C 2 dX7_readItem_11 rfl rfl ?_
      refine vv_iconst C dX7_readItem_12 ki_4 ?_
      refine vv_icmp_ge (pc := 13) C 116 dX7_readItem_13 (by decide) (fun hc7 => ?_) (fun hc7 => ?_)
      · replace h := h.1 hc7
        refine vv_bipush C dX7_readItem_116 kb_m4 ?_
        exact vv_iret C dX7_readItem_118 h
      · replace h := h.2 hc7
        refine vv_aload_n C 0 dX7_readItem_16 rfl rfl ?_
        refine vv_iload_n C 1 dX7_readItem_17 rfl rfl ?_
        refine vv_callI (rest := []) C yk_X7_figuresAt vk_X7_figuresAt lk_X7_25 kc_X7.1 (s_X7 hY) dX7_readItem_18 (mX7_figuresAt hY h) rfl rfl ⟨Nat.le_of_ble_eq_true rfl, Nat.le_of_ble_eq_true rfl⟩ (Nat.le_of_ble_eq_true rfl) (fun r9 σ8 h => ?_)
        refine vv_istore (L' := [(4, .int r9), (0, .ref (vv_q Y 1)), (2, .int v3), (3, .int v4)]) C dX7_readItem_21 (by decide) rfl ?_
        refine vv_iload C 0 dX7_readItem_23 rfl ?_
        refine vv_if_ne (pc := 25) C 31 dX7_readItem_25 (by decide) (fun hc10 => ?_) (fun hc10 => ?_)
        · replace h := h.1 hc10
          refine vv_aload_n C 1 dX7_readItem_31 rfl rfl ?_
          refine vv_getr (r := 3) C kc_X7 (s_X7 hY) 2 (by decide) rfl fk_X7_15 dX7_readItem_32 ?_
          refine vv_iload_n C 3 dX7_readItem_35 rfl rfl ?_
          refine vv_iload C 0 dX7_readItem_36 rfl ?_
          refine vv_iconst C dX7_readItem_38 ki_1 ?_
          refine vv_join (fun k => ∀ (v11 : Int32) (σ12 : vv_S), k v11 σ12 → VJ Y X (va_Qi post (vv_B Y) X.2) 6 66 [(0, .ref (vv_q Y 1)), (2, .int v3), (3, .int v4), (4, .int r9)] [.int v11, .int v4, .ref (vv_q Y 3)] σ12) h (fun v11 σ12 h => ?_) (fun k66_12 hJk66_12 h => ?_)
          · obtain ⟨hi14, h⟩ := h
            refine vv_iast C (a_X7_numbers hY) hi14 rfl dX7_readItem_66 (fun σ15 eσ15 => ?_)
            replace h := h σ15 eσ15
            refine vv_aload_n C 0 dX7_readItem_67 rfl rfl ?_
            refine vv_iload_n C 2 dX7_readItem_68 rfl rfl ?_
            refine vv_iconst C dX7_readItem_69 ki_1 ?_
            refine vv_iadd C dX7_readItem_70 ?_
            refine vv_puti C kc_X7 (s_X7 hY) 3 (by decide) rfl pf_X7_3 fk_X7_22 dX7_readItem_71 (fun σ16 eσ16 => ?_)
            replace h := h σ16 eσ16
            refine vv_aload_n C 0 dX7_readItem_74 rfl rfl ?_
            refine vv_iload_n C 1 dX7_readItem_75 rfl rfl ?_
            refine vv_iload C 3 dX7_readItem_76 rfl ?_
            refine vv_iadd C dX7_readItem_78 ?_
            refine vv_callI (rest := []) C yk_X7_letterAt vk_X7_letterAt lk_X7_32 kc_X7.1 (s_X7 hY) dX7_readItem_79 (mX7_letterAt hY h) rfl rfl ⟨Nat.le_of_ble_eq_true rfl, Nat.le_of_ble_eq_true rfl⟩ (Nat.le_of_ble_eq_true rfl) (fun r18 σ17 h => ?_)
            refine vv_istore (L' := [(5, .int r18), (0, .ref (vv_q Y 1)), (2, .int v3), (3, .int v4), (4, .int r9)]) C dX7_readItem_82 (by decide) rfl ?_
            refine vv_iload_n C 2 dX7_readItem_84 rfl rfl ?_
            refine vv_iload C 4 dX7_readItem_85 rfl ?_
            refine vv_iconst C dX7_readItem_87 ki_1 ?_
            refine vv_iadd C dX7_readItem_88 ?_
            refine vv_iadd C dX7_readItem_89 ?_
            refine vv_nm (fun v19 ev19 => ?_)
            replace h := h v19 ev19
            refine vv_istore_n (L' := [(2, .int v19), (5, .int r18), (0, .ref (vv_q Y 1)), (3, .int v4), (4, .int r9)]) C dX7_readItem_90 rfl (by decide) rfl ?_
            refine vv_iload C 1 dX7_readItem_91 rfl ?_
            refine vv_bipush C dX7_readItem_93 kb_59 ?_
            refine vv_icmp_ne (pc := 95) C 100 dX7_readItem_95 (by decide) (fun hc20 => ?_) (fun hc20 => ?_)
            · replace h := h.1 hc20
              refine vv_iload C 1 dX7_readItem_100 rfl ?_
              refine vv_bipush C dX7_readItem_102 kb_44 ?_
              refine vv_icmp_eq (pc := 104) C 110 dX7_readItem_104 (by decide) (fun hc21 => ?_) (fun hc21 => ?_)
              · replace h := h.1 hc21
                obtain ⟨v22, ev22⟩ : ∃ z : Int32, z = v4 + (1 : Int32) := ⟨_, rfl⟩
                replace h := h v22 ev22
                refine vv_iinc (v := v22) (L' := [(3, .int v22), (2, .int v19), (5, .int r18), (0, .ref (vv_q Y 1)), (4, .int r9)]) C 3 dX7_readItem_110 rfl ((kinc ki_1).trans ev22.symm) (by decide) rfl ?_
                refine vv_goto (pc := 113) (tgt := 11) C dX7_readItem_113 (by decide) ?_
                refine vv_sub [3, 1, 0] (L' := [(0, .ref (vv_q Y 1)), (2, .int v19), (3, .int v22)]) rfl ?_
                exact ih1 _ _ _ h
              · replace h := h.2 hc21
                refine vv_bipush C dX7_readItem_107 kb_m4 ?_
                exact vv_iret C dX7_readItem_109 h
            · replace h := h.2 hc20
              refine vv_iload_n C 0 dX7_readItem_98 rfl rfl ?_
              exact vv_iret C dX7_readItem_99 h
          · refine vv_icmp_ne (pc := 39) C 50 dX7_readItem_39 (by decide) (fun hc23 => ?_) (fun hc23 => ?_)
            · replace h := h.1 hc23
              refine vv_bipush C dX7_readItem_50 kb_10 ?_
              refine vv_aload_n C 1 dX7_readItem_52 rfl rfl ?_
              refine vv_iload_n C 2 dX7_readItem_53 rfl rfl ?_
              refine vv_callI (rest := [.int (10 : Int32), .int v4, .ref (vv_q Y 3)]) C yk_X7_figureAt vk_X7_figureAt lk_X7_29 kc_X7.1 (s_X7 hY) dX7_readItem_54 (mX7_figureAt hY h) rfl rfl ⟨Nat.le_of_ble_eq_true rfl, Nat.le_of_ble_eq_true rfl⟩ (Nat.le_of_ble_eq_true rfl) (fun r25 σ24 h => ?_)
              refine vv_imul C dX7_readItem_57 ?_
              refine vv_aload_n C 1 dX7_readItem_58 rfl rfl ?_
              refine vv_iload_n C 2 dX7_readItem_59 rfl rfl ?_
              refine vv_iconst C dX7_readItem_60 ki_1 ?_
              refine vv_iadd C dX7_readItem_61 ?_
              refine vv_callI (rest := [.int ((10 : Int32) * r25), .int v4, .ref (vv_q Y 3)]) C yk_X7_figureAt vk_X7_figureAt lk_X7_29 kc_X7.1 (s_X7 hY) dX7_readItem_62 (mX7_figureAt hY h) rfl rfl ⟨Nat.le_of_ble_eq_true rfl, Nat.le_of_ble_eq_true rfl⟩ (Nat.le_of_ble_eq_true rfl) (fun r27 σ26 h => ?_)
              refine vv_iadd C dX7_readItem_65 ?_
              refine vv_sub [1, 2, 3, 0] (L' := [(0, .ref (vv_q Y 1)), (2, .int v3), (3, .int v4), (4, .int r9)]) rfl ?_
              exact hJk66_12 _ _ h
            · replace h := h.2 hc23
              refine vv_aload_n C 1 dX7_readItem_42 rfl rfl ?_
              refine vv_iload_n C 2 dX7_readItem_43 rfl rfl ?_
              refine vv_callI (rest := [.int v4, .ref (vv_q Y 3)]) C yk_X7_figureAt vk_X7_figureAt lk_X7_29 kc_X7.1 (s_X7 hY) dX7_readItem_44 (mX7_figureAt hY h) rfl rfl ⟨Nat.le_of_ble_eq_true rfl, Nat.le_of_ble_eq_true rfl⟩ (Nat.le_of_ble_eq_true rfl) (fun r29 σ28 h => ?_)
              refine vv_goto (pc := 47) (tgt := 66) C dX7_readItem_47 (by decide) ?_
              refine vv_sub [1, 2, 3, 0] (L' := [(0, .ref (vv_q Y 1)), (2, .int v3), (3, .int v4), (4, .int r9)]) rfl ?_
              exact hJk66_12 _ _ h
        · replace h := h.2 hc10
          refine vv_bipush C dX7_readItem_28 kb_m4 ?_
          exact vv_iret C dX7_readItem_30 h
  refine vv_sub [2, 1, 0] (L' := [(0, .ref (vv_q Y 1)), (2, .int v1), (3, .int (0 : Int32))]) rfl ?_
  exact hl1 n6 _ _ _ h
set_option maxHeartbeats 2000000 in
set_option maxRecDepth 100000 in
theorem mX7_numberCount {Y : vv_Y} (hY : Y.2.2.2.2 = wC)  {σ : vv_S} {post : Int32 → vv_S → Prop} (h : wX7_numberCount σ post) : vv_MI Y yX7_numberCount cX7_numberCount 1 (some .int) 0 0 [.ref (vv_q Y 1)] σ post := by
  refine vv_ofI (by decide) (Nat.le_of_ble_eq_true rfl) (fun X C => ?_)
  have C : VC Y X RX7 cX7_numberCount 1 (some .int) 0 0 := C
  refine vv_sub [0] (L' := [(0, .ref (vv_q Y 1))]) rfl ?_
  refine vv_aload_n C 0 dX7_numberCount_0 rfl rfl ?_
  refine vv_geti C kc_X7 (s_X7 hY) 3 (by decide) rfl fk_X7_22 dX7_numberCount_1 ?_
  exact vv_iret C dX7_numberCount_4 h
set_option maxHeartbeats 2000000 in
set_option maxRecDepth 100000 in
theorem mX4_setLake {Y : vv_Y} (hY : Y.2.2.2.2 = wC) {d : Nat} (hd : is_X4 d) {a1 : Int32} {a2 : Int32} {σ : vv_S} {post : Int32 → vv_S → Prop} (h : wX4_setLake d a1 a2 σ post) : vv_MI Y yX4_setLake cX4_setLake 3 (some .boolean) 1 22 [.ref (vv_q Y d), .int a1, .int a2] σ post := by
  refine vv_ofI (by decide) (Nat.le_of_ble_eq_true rfl) (fun X C => ?_)
  have C : VC Y X RX4 cX4_setLake 3 (some .boolean) 1 22 := C
  refine vv_sub [0, 1, 2] (L' := [(0, .ref (vv_q Y d)), (1, .int a1), (2, .int a2)]) rfl ?_
  refine vv_aload_n C 0 dX4_setLake_0 rfl rfl ?_
  refine vv_iload_n C 1 dX4_setLake_1 rfl rfl ?_
  refine vv_puti C kc_X4 (s_X4 hY hd) 5 (by decide) rfl pf_X4_5 fk_X4_65 dX4_setLake_2 (fun σ1 eσ1 => ?_)
  replace h := h σ1 eσ1
  refine vv_aload_n C 0 dX4_setLake_5 rfl rfl ?_
  refine vv_iload_n C 2 dX4_setLake_6 rfl rfl ?_
  refine vv_puti C kc_X4 (s_X4 hY hd) 6 (by decide) rfl pf_X4_6 fk_X4_68 dX4_setLake_7 (fun σ2 eσ2 => ?_)
  replace h := h σ2 eσ2
  refine vv_iload_n C 1 dX4_setLake_10 rfl rfl ?_
  refine vv_iconst C dX4_setLake_11 ki_1 ?_
  refine vv_bipush C dX4_setLake_12 kb_20 ?_
  refine vv_callSN (rest := []) C yk_X8_isWithin sk_X8_isWithin lk_X4_107 dX4_setLake_14 (mX8_isWithin hY h) rfl rfl ⟨Nat.le_of_ble_eq_true rfl, Nat.le_of_ble_eq_true rfl⟩ (Nat.le_of_ble_eq_true rfl) (fun r4 σ3 h => ?_)
  refine vv_join (fun k => ∀ (v5 : Int32), k v5 → VJ Y X (va_Qi post (vv_B Y) X.2) 3 30 [] [.int v5] σ3) h (fun v5 h => ?_) (fun k30_5 hJk30_5 h => ?_)
  · exact vv_zret C h.1 dX4_setLake_30 h.2
  · refine vv_join (fun k =>  k → VJ Y X (va_Qi post (vv_B Y) X.2) 3 29 [] [] σ3) h (fun h => ?_) (fun k29_6 hJk29_6 h => ?_)
    · refine vv_iconst C dX4_setLake_29 ki_0 ?_
      refine vv_sub [] (L' := []) rfl ?_
      exact hJk30_5 _ h
    · refine vv_if_eq (pc := 17) C 29 dX4_setLake_17 (by decide) (fun hc8 => ?_) (fun hc8 => ?_)
      · replace h := h.1 hc8
        refine vv_sub [] (L' := []) rfl ?_
        exact hJk29_6 h
      · replace h := h.2 hc8
        refine vv_iload_n C 2 dX4_setLake_20 rfl rfl ?_
        refine vv_iconst C dX4_setLake_21 ki_5 ?_
        refine vv_icmp_gt (pc := 22) C 29 dX4_setLake_22 (by decide) (fun hc9 => ?_) (fun hc9 => ?_)
        · replace h := h.1 hc9
          refine vv_sub [] (L' := []) rfl ?_
          exact hJk29_6 h
        · replace h := h.2 hc9
          refine vv_iconst C dX4_setLake_25 ki_1 ?_
          refine vv_goto (pc := 26) (tgt := 30) C dX4_setLake_26 (by decide) ?_
          refine vv_sub [] (L' := []) rfl ?_
          exact hJk30_5 _ h
set_option maxHeartbeats 2000000 in
set_option maxRecDepth 100000 in
theorem mX4_setBanks {Y : vv_Y} (hY : Y.2.2.2.2 = wC) {d : Nat} (hd : is_X4 d) {a1 : Int32} {a2 : Int32} {σ : vv_S} {post : Int32 → vv_S → Prop} (h : wX4_setBanks d a1 a2 σ post) : vv_MI Y yX4_setBanks cX4_setBanks 3 (some .boolean) 0 0 [.ref (vv_q Y d), .int a1, .int a2] σ post := by
  refine vv_ofI (by decide) (Nat.le_of_ble_eq_true rfl) (fun X C => ?_)
  have C : VC Y X RX4 cX4_setBanks 3 (some .boolean) 0 0 := C
  refine vv_sub [0, 1, 2] (L' := [(0, .ref (vv_q Y d)), (1, .int a1), (2, .int a2)]) rfl ?_
  refine vv_aload_n C 0 dX4_setBanks_0 rfl rfl ?_
  refine vv_iload_n C 1 dX4_setBanks_1 rfl rfl ?_
  refine vv_puti C kc_X4 (s_X4 hY hd) 3 (by decide) rfl pf_X4_3 fk_X4_59 dX4_setBanks_2 (fun σ1 eσ1 => ?_)
  replace h := h σ1 eσ1
  refine vv_aload_n C 0 dX4_setBanks_5 rfl rfl ?_
  refine vv_iload_n C 2 dX4_setBanks_6 rfl rfl ?_
  refine vv_puti C kc_X4 (s_X4 hY hd) 4 (by decide) rfl pf_X4_4 fk_X4_62 dX4_setBanks_7 (fun σ2 eσ2 => ?_)
  replace h := h σ2 eσ2
  refine vv_iload_n C 1 dX4_setBanks_10 rfl rfl ?_
  refine vv_bipush C dX4_setBanks_11 kb_50 ?_
  refine vv_join (fun k => ∀ (v3 : Int32), k v3 → VJ Y X (va_Qi post (vv_B Y) X.2) 3 27 [] [.int v3] σ2) h (fun v3 h => ?_) (fun k27_3 hJk27_3 h => ?_)
  · exact vv_zret C h.1 dX4_setBanks_27 h.2
  · refine vv_join (fun k =>  k → VJ Y X (va_Qi post (vv_B Y) X.2) 3 26 [] [] σ2) h (fun h => ?_) (fun k26_4 hJk26_4 h => ?_)
    · refine vv_iconst C dX4_setBanks_26 ki_0 ?_
      refine vv_sub [] (L' := []) rfl ?_
      exact hJk27_3 _ h
    · refine vv_icmp_gt (pc := 13) C 26 dX4_setBanks_13 (by decide) (fun hc6 => ?_) (fun hc6 => ?_)
      · replace h := h.1 hc6
        refine vv_sub [] (L' := []) rfl ?_
        exact hJk26_4 h
      · replace h := h.2 hc6
        refine vv_iload_n C 2 dX4_setBanks_16 rfl rfl ?_
        refine vv_bipush C dX4_setBanks_17 kb_50 ?_
        refine vv_icmp_gt (pc := 19) C 26 dX4_setBanks_19 (by decide) (fun hc7 => ?_) (fun hc7 => ?_)
        · replace h := h.1 hc7
          refine vv_sub [] (L' := []) rfl ?_
          exact hJk26_4 h
        · replace h := h.2 hc7
          refine vv_iconst C dX4_setBanks_22 ki_1 ?_
          refine vv_goto (pc := 23) (tgt := 27) C dX4_setBanks_23 (by decide) ?_
          refine vv_sub [] (L' := []) rfl ?_
          exact hJk27_3 _ h
set_option maxHeartbeats 2000000 in
set_option maxRecDepth 100000 in
theorem mX4_addCell {Y : vv_Y} (hY : Y.2.2.2.2 = wC) {d : Nat} (hd : is_X4 d) {a1 : Int32} {a2 : Int32} {σ : vv_S} {post : Int32 → vv_S → Prop} (h : wX4_addCell d a1 a2 σ post) : vv_MI Y yX4_addCell cX4_addCell 3 (some .boolean) 2 42 [.ref (vv_q Y d), .int a1, .int a2] σ post := by
  refine vv_ofI (by decide) (Nat.le_of_ble_eq_true rfl) (fun X C => ?_)
  have C : VC Y X RX4 cX4_addCell 3 (some .boolean) 2 42 := C
  refine vv_sub [0, 1, 2] (L' := [(0, .ref (vv_q Y d)), (1, .int a1), (2, .int a2)]) rfl ?_
  refine vv_aload_n C 0 dX4_addCell_0 rfl rfl ?_
  refine vv_geti C kc_X4 (s_X4 hY hd) 2 (by decide) rfl fk_X4_55 dX4_addCell_1 ?_
  refine vv_join (fun k => ∀ (σ1 : vv_S), k σ1 → VJ Y X (va_Qi post (vv_B Y) X.2) 3 29 [] [] σ1) h (fun σ1 h => ?_) (fun k29_1 hJk29_1 h => ?_)
  · refine vv_iconst C dX4_addCell_29 ki_0 ?_
    exact vv_zret C (Or.inl rfl) dX4_addCell_30 h
  · refine vv_if_lt (pc := 4) C 29 dX4_addCell_4 (by decide) (fun hc3 => ?_) (fun hc3 => ?_)
    · replace h := h.1 hc3
      refine vv_sub [] (L' := []) rfl ?_
      exact hJk29_1 _ h
    · replace h := h.2 hc3
      refine vv_aload_n C 0 dX4_addCell_7 rfl rfl ?_
      refine vv_geti C kc_X4 (s_X4 hY hd) 2 (by decide) rfl fk_X4_55 dX4_addCell_8 ?_
      refine vv_bipush C dX4_addCell_11 kb_8 ?_
      refine vv_icmp_ge (pc := 13) C 29 dX4_addCell_13 (by decide) (fun hc4 => ?_) (fun hc4 => ?_)
      · replace h := h.1 hc4
        refine vv_sub [] (L' := []) rfl ?_
        exact hJk29_1 _ h
      · replace h := h.2 hc4
        refine vv_iload_n C 1 dX4_addCell_16 rfl rfl ?_
        refine vv_bipush C dX4_addCell_17 kb_40 ?_
        refine vv_icmp_gt (pc := 19) C 29 dX4_addCell_19 (by decide) (fun hc5 => ?_) (fun hc5 => ?_)
        · replace h := h.1 hc5
          refine vv_sub [] (L' := []) rfl ?_
          exact hJk29_1 _ h
        · replace h := h.2 hc5
          refine vv_iload_n C 2 dX4_addCell_22 rfl rfl ?_
          refine vv_callSN (rest := []) C yk_X8_isStuff sk_X8_isStuff lk_X4_103 dX4_addCell_23 (mX8_isStuff hY h) rfl rfl ⟨Nat.le_of_ble_eq_true rfl, Nat.le_of_ble_eq_true rfl⟩ (Nat.le_of_ble_eq_true rfl) (fun r7 σ6 h => ?_)
          refine vv_if_ne (pc := 26) C 31 dX4_addCell_26 (by decide) (fun hc8 => ?_) (fun hc8 => ?_)
          · replace h := h.1 hc8
            refine vv_aload_n C 0 dX4_addCell_31 rfl rfl ?_
            refine vv_getr (r := (d + 1)) C kc_X4 (s_X4 hY hd) 0 (by decide) rfl fk_X4_9 dX4_addCell_32 ?_
            refine vv_aload_n C 0 dX4_addCell_35 rfl rfl ?_
            refine vv_geti C kc_X4 (s_X4 hY hd) 2 (by decide) rfl fk_X4_55 dX4_addCell_36 ?_
            refine vv_iload_n C 1 dX4_addCell_39 rfl rfl ?_
            obtain ⟨hi9, h⟩ := h
            refine vv_iast C (a_X4_heights hY hd) hi9 rfl dX4_addCell_40 (fun σ10 eσ10 => ?_)
            replace h := h σ10 eσ10
            refine vv_aload_n C 0 dX4_addCell_41 rfl rfl ?_
            refine vv_getr (r := (d + 2)) C kc_X4 (s_X4 hY hd) 1 (by decide) rfl fk_X4_15 dX4_addCell_42 ?_
            refine vv_aload_n C 0 dX4_addCell_45 rfl rfl ?_
            refine vv_geti C kc_X4 (s_X4 hY hd) 2 (by decide) rfl fk_X4_55 dX4_addCell_46 ?_
            refine vv_iload_n C 2 dX4_addCell_49 rfl rfl ?_
            obtain ⟨hi11, h⟩ := h
            refine vv_iast C (a_X4_stuffs hY hd) hi11 rfl dX4_addCell_50 (fun σ12 eσ12 => ?_)
            replace h := h σ12 eσ12
            refine vv_aload_n C 0 dX4_addCell_51 rfl rfl ?_
            refine vv_dup C dX4_addCell_52 rfl ?_
            refine vv_geti C kc_X4 (s_X4 hY hd) 2 (by decide) rfl fk_X4_55 dX4_addCell_53 ?_
            refine vv_iconst C dX4_addCell_56 ki_1 ?_
            refine vv_iadd C dX4_addCell_57 ?_
            refine vv_puti C kc_X4 (s_X4 hY hd) 2 (by decide) rfl pf_X4_2 fk_X4_55 dX4_addCell_58 (fun σ13 eσ13 => ?_)
            replace h := h σ13 eσ13
            refine vv_iconst C dX4_addCell_61 ki_1 ?_
            exact vv_zret C (Or.inr rfl) dX4_addCell_62 h
          · replace h := h.2 hc8
            refine vv_sub [] (L' := []) rfl ?_
            exact hJk29_1 _ h
set_option maxHeartbeats 2000000 in
set_option maxRecDepth 100000 in
theorem mX4_takeItem {Y : vv_Y} (hY : Y.2.2.2.2 = wC) {d : Nat} (hd : is_X4 d) {a1 : Int32} {σ : vv_S} {post : Int32 → vv_S → Prop} (h : wX4_takeItem d a1 σ post) : vv_MI Y yX4_takeItem cX4_takeItem 7 (some .boolean) 3 64 [.ref (vv_q Y d), .int a1, .ref (vv_q Y 1)] σ post := by
  refine vv_ofI (by decide) (Nat.le_of_ble_eq_true rfl) (fun X C => ?_)
  have C : VC Y X RX4 cX4_takeItem 7 (some .boolean) 3 64 := C
  refine vv_sub [0, 1, 2] (L' := [(0, .ref (vv_q Y d)), (1, .int a1), (2, .ref (vv_q Y 1))]) rfl ?_
  refine vv_aload_n C 2 dX4_takeItem_0 rfl rfl ?_
  refine vv_callI (rest := []) C yk_X7_numberCount vk_X7_numberCount lk_X4_73 kc_X7.1 (s_X7 hY) dX4_takeItem_1 (mX7_numberCount hY h) rfl rfl ⟨Nat.le_of_ble_eq_true rfl, Nat.le_of_ble_eq_true rfl⟩ (Nat.le_of_ble_eq_true rfl) (fun r2 σ1 h => ?_)
  refine vv_istore_n (L' := [(3, .int r2), (0, .ref (vv_q Y d)), (1, .int a1), (2, .ref (vv_q Y 1))]) C dX4_takeItem_4 rfl (by decide) rfl ?_
  refine vv_aload_n C 3 dX4_takeItem_5 rfl rfl ?_
  refine vv_iconst C dX4_takeItem_6 ki_0 ?_
  refine vv_callI (rest := []) C yk_X7_numberAt vk_X7_numberAt lk_X4_76 kc_X7.1 (s_X7 hY) dX4_takeItem_7 (mX7_numberAt hY h) rfl rfl ⟨Nat.le_of_ble_eq_true rfl, Nat.le_of_ble_eq_true rfl⟩ (Nat.le_of_ble_eq_true rfl) (fun r4 σ3 h => ?_)
  refine vv_istore (L' := [(4, .int r4), (3, .int r2), (0, .ref (vv_q Y d)), (1, .int a1), (2, .ref (vv_q Y 1))]) C dX4_takeItem_10 (by decide) rfl ?_
  refine vv_aload_n C 4 dX4_takeItem_12 rfl rfl ?_
  refine vv_iconst C dX4_takeItem_13 ki_1 ?_
  refine vv_callI (rest := []) C yk_X7_numberAt vk_X7_numberAt lk_X4_76 kc_X7.1 (s_X7 hY) dX4_takeItem_14 (mX7_numberAt hY h) rfl rfl ⟨Nat.le_of_ble_eq_true rfl, Nat.le_of_ble_eq_true rfl⟩ (Nat.le_of_ble_eq_true rfl) (fun r6 σ5 h => ?_)
  refine vv_istore (L' := [(5, .int r6), (4, .int r4), (3, .int r2), (0, .ref (vv_q Y d)), (1, .int a1), (2, .ref (vv_q Y 1))]) C dX4_takeItem_17 (by decide) rfl ?_
  refine vv_aload_n C 5 dX4_takeItem_19 rfl rfl ?_
  refine vv_iconst C dX4_takeItem_20 ki_2 ?_
  refine vv_callI (rest := []) C yk_X7_numberAt vk_X7_numberAt lk_X4_76 kc_X7.1 (s_X7 hY) dX4_takeItem_21 (mX7_numberAt hY h) rfl rfl ⟨Nat.le_of_ble_eq_true rfl, Nat.le_of_ble_eq_true rfl⟩ (Nat.le_of_ble_eq_true rfl) (fun r8 σ7 h => ?_)
  refine vv_istore (L' := [(6, .int r8), (5, .int r6), (4, .int r4), (3, .int r2), (0, .ref (vv_q Y d)), (1, .int a1), (2, .ref (vv_q Y 1))]) C dX4_takeItem_24 (by decide) rfl ?_
  refine vv_iload_n C 5 dX4_takeItem_26 rfl rfl ?_
  by_cases hc9 : a1 = (97 : Int32)
  · replace h := h.1 hc9
    refine vv_tab (pc := 27) C 156 dX4_takeItem_27 hc9 (by decide) (by decide) rfl (by decide) ?_
    refine vv_iload_n C 3 dX4_takeItem_156 rfl rfl ?_
    refine vv_iconst C dX4_takeItem_157 ki_2 ?_
    refine vv_join (fun k => ∀ (v10 : Int32) (σ11 : vv_S), k v10 σ11 → VJ Y X (va_Qi post (vv_B Y) X.2) 7 177 [] [.int v10] σ11) h (fun v10 σ11 h => ?_) (fun k177_11 hJk177_11 h => ?_)
    · exact vv_zret C h.1 dX4_takeItem_177 h.2
    · refine vv_join (fun k => ∀ (σ13 : vv_S), k σ13 → VJ Y X (va_Qi post (vv_B Y) X.2) 7 176 [] [] σ13) h (fun σ13 h => ?_) (fun k176_13 hJk176_13 h => ?_)
      · refine vv_iconst C dX4_takeItem_176 ki_0 ?_
        refine vv_sub [] (L' := []) rfl ?_
        exact hJk177_11 _ _ h
      · refine vv_icmp_ne (pc := 158) C 176 dX4_takeItem_158 (by decide) (fun hc15 => ?_) (fun hc15 => ?_)
        · replace h := h.1 hc15
          refine vv_sub [] (L' := []) rfl ?_
          exact hJk176_13 _ h
        · replace h := h.2 hc15
          refine vv_aload_n C 4 dX4_takeItem_161 rfl rfl ?_
          refine vv_iload C 2 dX4_takeItem_162 rfl ?_
          refine vv_iload C 1 dX4_takeItem_164 rfl ?_
          refine vv_callI (rest := []) C yk_X4_setLake vk_X4_setLake lk_X4_86 kc_X4.1 (s_X4 hY hd) dX4_takeItem_166 (mX4_setLake hY hd h) rfl rfl ⟨Nat.le_of_ble_eq_true rfl, Nat.le_of_ble_eq_true rfl⟩ (Nat.le_of_ble_eq_true rfl) (fun r17 σ16 h => ?_)
          refine vv_if_eq (pc := 169) C 176 dX4_takeItem_169 (by decide) (fun hc18 => ?_) (fun hc18 => ?_)
          · replace h := h.1 hc18
            refine vv_sub [] (L' := []) rfl ?_
            exact hJk176_13 _ h
          · replace h := h.2 hc18
            refine vv_iconst C dX4_takeItem_172 ki_1 ?_
            refine vv_goto (pc := 173) (tgt := 177) C dX4_takeItem_173 (by decide) ?_
            refine vv_sub [] (L' := []) rfl ?_
            exact hJk177_11 _ _ h
  replace h := h.2
  by_cases hc19 : a1 = (98 : Int32)
  · replace h := h.1 hc19
    refine vv_tab (pc := 27) C 134 dX4_takeItem_27 hc19 (by decide) (by decide) rfl (by decide) ?_
    refine vv_iload_n C 3 dX4_takeItem_134 rfl rfl ?_
    refine vv_iconst C dX4_takeItem_135 ki_2 ?_
    refine vv_join (fun k => ∀ (v20 : Int32) (σ21 : vv_S), k v20 σ21 → VJ Y X (va_Qi post (vv_B Y) X.2) 7 155 [] [.int v20] σ21) h (fun v20 σ21 h => ?_) (fun k155_21 hJk155_21 h => ?_)
    · exact vv_zret C h.1 dX4_takeItem_155 h.2
    · refine vv_join (fun k => ∀ (σ23 : vv_S), k σ23 → VJ Y X (va_Qi post (vv_B Y) X.2) 7 154 [] [] σ23) h (fun σ23 h => ?_) (fun k154_23 hJk154_23 h => ?_)
      · refine vv_iconst C dX4_takeItem_154 ki_0 ?_
        refine vv_sub [] (L' := []) rfl ?_
        exact hJk155_21 _ _ h
      · refine vv_icmp_ne (pc := 136) C 154 dX4_takeItem_136 (by decide) (fun hc25 => ?_) (fun hc25 => ?_)
        · replace h := h.1 hc25
          refine vv_sub [] (L' := []) rfl ?_
          exact hJk154_23 _ h
        · replace h := h.2 hc25
          refine vv_aload_n C 4 dX4_takeItem_139 rfl rfl ?_
          refine vv_iload C 2 dX4_takeItem_140 rfl ?_
          refine vv_iload C 1 dX4_takeItem_142 rfl ?_
          refine vv_callI (rest := []) C yk_X4_setBanks vk_X4_setBanks lk_X4_83 kc_X4.1 (s_X4 hY hd) dX4_takeItem_144 (mX4_setBanks hY hd h) rfl rfl ⟨Nat.le_of_ble_eq_true rfl, Nat.le_of_ble_eq_true rfl⟩ (Nat.le_of_ble_eq_true rfl) (fun r27 σ26 h => ?_)
          refine vv_if_eq (pc := 147) C 154 dX4_takeItem_147 (by decide) (fun hc28 => ?_) (fun hc28 => ?_)
          · replace h := h.1 hc28
            refine vv_sub [] (L' := []) rfl ?_
            exact hJk154_23 _ h
          · replace h := h.2 hc28
            refine vv_iconst C dX4_takeItem_150 ki_1 ?_
            refine vv_goto (pc := 151) (tgt := 155) C dX4_takeItem_151 (by decide) ?_
            refine vv_sub [] (L' := []) rfl ?_
            exact hJk155_21 _ _ h
  replace h := h.2
  by_cases hc29 : a1 = (99 : Int32)
  · replace h := h.1 hc29
    refine vv_tab (pc := 27) C 112 dX4_takeItem_27 hc29 (by decide) (by decide) rfl (by decide) ?_
    refine vv_iload_n C 3 dX4_takeItem_112 rfl rfl ?_
    refine vv_iconst C dX4_takeItem_113 ki_2 ?_
    refine vv_join (fun k => ∀ (v30 : Int32) (σ31 : vv_S), k v30 σ31 → VJ Y X (va_Qi post (vv_B Y) X.2) 7 133 [] [.int v30] σ31) h (fun v30 σ31 h => ?_) (fun k133_31 hJk133_31 h => ?_)
    · exact vv_zret C h.1 dX4_takeItem_133 h.2
    · refine vv_join (fun k => ∀ (σ33 : vv_S), k σ33 → VJ Y X (va_Qi post (vv_B Y) X.2) 7 132 [] [] σ33) h (fun σ33 h => ?_) (fun k132_33 hJk132_33 h => ?_)
      · refine vv_iconst C dX4_takeItem_132 ki_0 ?_
        refine vv_sub [] (L' := []) rfl ?_
        exact hJk133_31 _ _ h
      · refine vv_icmp_ne (pc := 114) C 132 dX4_takeItem_114 (by decide) (fun hc35 => ?_) (fun hc35 => ?_)
        · replace h := h.1 hc35
          refine vv_sub [] (L' := []) rfl ?_
          exact hJk132_33 _ h
        · replace h := h.2 hc35
          refine vv_aload_n C 4 dX4_takeItem_117 rfl rfl ?_
          refine vv_iload C 2 dX4_takeItem_118 rfl ?_
          refine vv_iload C 1 dX4_takeItem_120 rfl ?_
          refine vv_callI (rest := []) C yk_X4_addCell vk_X4_addCell lk_X4_79 kc_X4.1 (s_X4 hY hd) dX4_takeItem_122 (mX4_addCell hY hd h) rfl rfl ⟨Nat.le_of_ble_eq_true rfl, Nat.le_of_ble_eq_true rfl⟩ (Nat.le_of_ble_eq_true rfl) (fun r37 σ36 h => ?_)
          refine vv_if_eq (pc := 125) C 132 dX4_takeItem_125 (by decide) (fun hc38 => ?_) (fun hc38 => ?_)
          · replace h := h.1 hc38
            refine vv_sub [] (L' := []) rfl ?_
            exact hJk132_33 _ h
          · replace h := h.2 hc38
            refine vv_iconst C dX4_takeItem_128 ki_1 ?_
            refine vv_goto (pc := 129) (tgt := 133) C dX4_takeItem_129 (by decide) ?_
            refine vv_sub [] (L' := []) rfl ?_
            exact hJk133_31 _ _ h
  replace h := h.2
  by_cases hc39 : a1 = (102 : Int32)
  · replace h := h.1 hc39
    refine vv_tab (pc := 27) C 178 dX4_takeItem_27 hc39 (by decide) (by decide) rfl (by decide) ?_
    refine vv_iload_n C 3 dX4_takeItem_178 rfl rfl ?_
    refine vv_iconst C dX4_takeItem_179 ki_2 ?_
    refine vv_join (fun k => ∀ (v40 : Int32) (σ41 : vv_S), k v40 σ41 → VJ Y X (va_Qi post (vv_B Y) X.2) 7 202 [] [.int v40] σ41) h (fun v40 σ41 h => ?_) (fun k202_41 hJk202_41 h => ?_)
    · exact vv_zret C h.1 dX4_takeItem_202 h.2
    · refine vv_join (fun k => ∀ (σ43 : vv_S), k σ43 → VJ Y X (va_Qi post (vv_B Y) X.2) 7 201 [] [] σ43) h (fun σ43 h => ?_) (fun k201_43 hJk201_43 h => ?_)
      · refine vv_iconst C dX4_takeItem_201 ki_0 ?_
        refine vv_sub [] (L' := []) rfl ?_
        exact hJk202_41 _ _ h
      · refine vv_icmp_ne (pc := 180) C 201 dX4_takeItem_180 (by decide) (fun hc45 => ?_) (fun hc45 => ?_)
        · replace h := h.1 hc45
          refine vv_sub [] (L' := []) rfl ?_
          exact hJk201_43 _ h
        · replace h := h.2 hc45
          refine vv_aload_n C 4 dX4_takeItem_183 rfl rfl ?_
          refine vv_getr (r := (d + 3)) C kc_X4 (s_X4 hY hd) 7 (by decide) rfl fk_X4_21 dX4_takeItem_184 ?_
          refine vv_iload C 2 dX4_takeItem_187 rfl ?_
          refine vv_iload C 1 dX4_takeItem_189 rfl ?_
          refine vv_callI (rest := []) C yk_X1_addFlow vk_X1_addFlow lk_X4_89 kc_X1.1 (s_X1 hY (is_X1_of hd)) dX4_takeItem_191 (mX1_addFlow hY (is_X1_of hd) h) rfl rfl ⟨Nat.le_of_ble_eq_true rfl, Nat.le_of_ble_eq_true rfl⟩ (Nat.le_of_ble_eq_true rfl) (fun r47 σ46 h => ?_)
          refine vv_if_eq (pc := 194) C 201 dX4_takeItem_194 (by decide) (fun hc48 => ?_) (fun hc48 => ?_)
          · replace h := h.1 hc48
            refine vv_sub [] (L' := []) rfl ?_
            exact hJk201_43 _ h
          · replace h := h.2 hc48
            refine vv_iconst C dX4_takeItem_197 ki_1 ?_
            refine vv_goto (pc := 198) (tgt := 202) C dX4_takeItem_198 (by decide) ?_
            refine vv_sub [] (L' := []) rfl ?_
            exact hJk202_41 _ _ h
  replace h := h.2
  by_cases hc49 : a1 = (106 : Int32)
  · replace h := h.1 hc49
    refine vv_tab (pc := 27) C 252 dX4_takeItem_27 hc49 (by decide) (by decide) rfl (by decide) ?_
    refine vv_iload_n C 3 dX4_takeItem_252 rfl rfl ?_
    refine vv_iconst C dX4_takeItem_253 ki_3 ?_
    refine vv_join (fun k => ∀ (v50 : Int32) (σ51 : vv_S), k v50 σ51 → VJ Y X (va_Qi post (vv_B Y) X.2) 7 285 [] [.int v50] σ51) h (fun v50 σ51 h => ?_) (fun k285_51 hJk285_51 h => ?_)
    · exact vv_zret C h.1 dX4_takeItem_285 h.2
    · refine vv_join (fun k => ∀ (σ53 : vv_S), k σ53 → VJ Y X (va_Qi post (vv_B Y) X.2) 7 284 [] [] σ53) h (fun σ53 h => ?_) (fun k284_53 hJk284_53 h => ?_)
      · refine vv_iconst C dX4_takeItem_284 ki_0 ?_
        refine vv_sub [] (L' := []) rfl ?_
        exact hJk285_51 _ _ h
      · refine vv_icmp_ne (pc := 254) C 284 dX4_takeItem_254 (by decide) (fun hc55 => ?_) (fun hc55 => ?_)
        · replace h := h.1 hc55
          refine vv_sub [] (L' := []) rfl ?_
          exact hJk284_53 _ h
        · replace h := h.2 hc55
          refine vv_iload C 2 dX4_takeItem_257 rfl ?_
          refine vv_aload_n C 4 dX4_takeItem_259 rfl rfl ?_
          refine vv_geti C kc_X4 (s_X4 hY hd) 2 (by decide) rfl fk_X4_55 dX4_takeItem_260 ?_
          refine vv_icmp_ge (pc := 263) C 284 dX4_takeItem_263 (by decide) (fun hc56 => ?_) (fun hc56 => ?_)
          · replace h := h.1 hc56
            refine vv_sub [] (L' := []) rfl ?_
            exact hJk284_53 _ h
          · replace h := h.2 hc56
            refine vv_aload_n C 4 dX4_takeItem_266 rfl rfl ?_
            refine vv_getr (r := (d + 10)) C kc_X4 (s_X4 hY hd) 8 (by decide) rfl fk_X4_28 dX4_takeItem_267 ?_
            refine vv_iload C 1 dX4_takeItem_270 rfl ?_
            refine vv_iload C 0 dX4_takeItem_272 rfl ?_
            refine vv_callI (rest := []) C yk_X2_addJob vk_X2_addJob lk_X4_100 kc_X2.1 (s_X2 hY (is_X2_of hd)) dX4_takeItem_274 (mX2_addJob hY (is_X2_of hd) h) rfl rfl ⟨Nat.le_of_ble_eq_true rfl, Nat.le_of_ble_eq_true rfl⟩ (Nat.le_of_ble_eq_true rfl) (fun r58 σ57 h => ?_)
            refine vv_if_eq (pc := 277) C 284 dX4_takeItem_277 (by decide) (fun hc59 => ?_) (fun hc59 => ?_)
            · replace h := h.1 hc59
              refine vv_sub [] (L' := []) rfl ?_
              exact hJk284_53 _ h
            · replace h := h.2 hc59
              refine vv_iconst C dX4_takeItem_280 ki_1 ?_
              refine vv_goto (pc := 281) (tgt := 285) C dX4_takeItem_281 (by decide) ?_
              refine vv_sub [] (L' := []) rfl ?_
              exact hJk285_51 _ _ h
  replace h := h.2
  by_cases hc60 : a1 = (112 : Int32)
  · replace h := h.1 hc60
    refine vv_tab (pc := 27) C 230 dX4_takeItem_27 hc60 (by decide) (by decide) rfl (by decide) ?_
    refine vv_iload_n C 3 dX4_takeItem_230 rfl rfl ?_
    refine vv_iconst C dX4_takeItem_231 ki_4 ?_
    refine vv_join (fun k => ∀ (v61 : Int32) (σ62 : vv_S), k v61 σ62 → VJ Y X (va_Qi post (vv_B Y) X.2) 7 251 [] [.int v61] σ62) h (fun v61 σ62 h => ?_) (fun k251_62 hJk251_62 h => ?_)
    · exact vv_zret C h.1 dX4_takeItem_251 h.2
    · refine vv_join (fun k => ∀ (σ64 : vv_S), k σ64 → VJ Y X (va_Qi post (vv_B Y) X.2) 7 250 [] [] σ64) h (fun σ64 h => ?_) (fun k250_64 hJk250_64 h => ?_)
      · refine vv_iconst C dX4_takeItem_250 ki_0 ?_
        refine vv_sub [] (L' := []) rfl ?_
        exact hJk251_62 _ _ h
      · refine vv_icmp_ne (pc := 232) C 250 dX4_takeItem_232 (by decide) (fun hc66 => ?_) (fun hc66 => ?_)
        · replace h := h.1 hc66
          refine vv_sub [] (L' := []) rfl ?_
          exact hJk250_64 _ h
        · replace h := h.2 hc66
          refine vv_aload_n C 4 dX4_takeItem_235 rfl rfl ?_
          refine vv_getr (r := (d + 10)) C kc_X4 (s_X4 hY hd) 8 (by decide) rfl fk_X4_28 dX4_takeItem_236 ?_
          refine vv_aload_n C 6 dX4_takeItem_239 rfl rfl ?_
          refine vv_callI (rest := []) C yk_X2_addChild vk_X2_addChild lk_X4_96 kc_X2.1 (s_X2 hY (is_X2_of hd)) dX4_takeItem_240 (mX2_addChild hY (is_X2_of hd) h) rfl rfl ⟨Nat.le_of_ble_eq_true rfl, Nat.le_of_ble_eq_true rfl⟩ (Nat.le_of_ble_eq_true rfl) (fun r68 σ67 h => ?_)
          refine vv_if_eq (pc := 243) C 250 dX4_takeItem_243 (by decide) (fun hc69 => ?_) (fun hc69 => ?_)
          · replace h := h.1 hc69
            refine vv_sub [] (L' := []) rfl ?_
            exact hJk250_64 _ h
          · replace h := h.2 hc69
            refine vv_iconst C dX4_takeItem_246 ki_1 ?_
            refine vv_goto (pc := 247) (tgt := 251) C dX4_takeItem_247 (by decide) ?_
            refine vv_sub [] (L' := []) rfl ?_
            exact hJk251_62 _ _ h
  replace h := h.2
  by_cases hc70 : a1 = (114 : Int32)
  · replace h := h.1 hc70
    refine vv_tab (pc := 27) C 203 dX4_takeItem_27 hc70 (by decide) (by decide) rfl (by decide) ?_
    refine vv_iload_n C 3 dX4_takeItem_203 rfl rfl ?_
    refine vv_iconst C dX4_takeItem_204 ki_3 ?_
    refine vv_join (fun k => ∀ (v71 : Int32) (σ72 : vv_S), k v71 σ72 → VJ Y X (va_Qi post (vv_B Y) X.2) 7 229 [] [.int v71] σ72) h (fun v71 σ72 h => ?_) (fun k229_72 hJk229_72 h => ?_)
    · exact vv_zret C h.1 dX4_takeItem_229 h.2
    · refine vv_join (fun k => ∀ (σ74 : vv_S), k σ74 → VJ Y X (va_Qi post (vv_B Y) X.2) 7 228 [] [] σ74) h (fun σ74 h => ?_) (fun k228_74 hJk228_74 h => ?_)
      · refine vv_iconst C dX4_takeItem_228 ki_0 ?_
        refine vv_sub [] (L' := []) rfl ?_
        exact hJk229_72 _ _ h
      · refine vv_icmp_ne (pc := 205) C 228 dX4_takeItem_205 (by decide) (fun hc76 => ?_) (fun hc76 => ?_)
        · replace h := h.1 hc76
          refine vv_sub [] (L' := []) rfl ?_
          exact hJk228_74 _ h
        · replace h := h.2 hc76
          refine vv_aload_n C 4 dX4_takeItem_208 rfl rfl ?_
          refine vv_getr (r := (d + 3)) C kc_X4 (s_X4 hY hd) 7 (by decide) rfl fk_X4_21 dX4_takeItem_209 ?_
          refine vv_iload C 2 dX4_takeItem_212 rfl ?_
          refine vv_iload C 1 dX4_takeItem_214 rfl ?_
          refine vv_iload C 0 dX4_takeItem_216 rfl ?_
          refine vv_callI (rest := []) C yk_X1_addRain vk_X1_addRain lk_X4_92 kc_X1.1 (s_X1 hY (is_X1_of hd)) dX4_takeItem_218 (mX1_addRain hY (is_X1_of hd) h) rfl rfl ⟨Nat.le_of_ble_eq_true rfl, Nat.le_of_ble_eq_true rfl⟩ (Nat.le_of_ble_eq_true rfl) (fun r78 σ77 h => ?_)
          refine vv_if_eq (pc := 221) C 228 dX4_takeItem_221 (by decide) (fun hc79 => ?_) (fun hc79 => ?_)
          · replace h := h.1 hc79
            refine vv_sub [] (L' := []) rfl ?_
            exact hJk228_74 _ h
          · replace h := h.2 hc79
            refine vv_iconst C dX4_takeItem_224 ki_1 ?_
            refine vv_goto (pc := 225) (tgt := 229) C dX4_takeItem_225 (by decide) ?_
            refine vv_sub [] (L' := []) rfl ?_
            exact hJk229_72 _ _ h
  replace h := h.2
  replace h := h ⟨hc9, hc19, hc29, hc39, hc49, hc60, hc70⟩
  have hgap : ∀ n : Nat, n < 18 → ((#[129, 107, 85, 259, 259, 151, 259, 259, 259, 225, 259, 259, 259, 259, 259, 203, 259, 176] : Array Int)[n]? = some (259) ∨ ((97 : Int) + n = 97 ∨ (97 : Int) + n = 98 ∨ (97 : Int) + n = 99 ∨ (97 : Int) + n = 102 ∨ (97 : Int) + n = 106 ∨ (97 : Int) + n = 112 ∨ (97 : Int) + n = 114)) := by decide
  refine vv_tabD (pc := 27) C 286 dX4_takeItem_27 (fun n hn hx => by
      rcases hgap n (by omega) with h9 | h9
      · exact h9
      · exfalso; have nhc9 := lv_neT (a := 97) hc9 (by decide); have nhc19 := lv_neT (a := 98) hc19 (by decide); have nhc29 := lv_neT (a := 99) hc29 (by decide); have nhc39 := lv_neT (a := 102) hc39 (by decide); have nhc49 := lv_neT (a := 106) hc49 (by decide); have nhc60 := lv_neT (a := 112) hc60 (by decide); have nhc70 := lv_neT (a := 114) hc70 (by decide); omega) (by decide) ?_
  refine vv_iconst C dX4_takeItem_286 ki_0 ?_
  exact vv_zret C (Or.inl rfl) dX4_takeItem_287 h
set_option maxHeartbeats 2000000 in
set_option maxRecDepth 100000 in
theorem mX4_readFrom {Y : vv_Y} (hY : Y.2.2.2.2 = wC) {d : Nat} (hd : is_X4 d) {σ : vv_S} {post : Int32 → vv_S → Prop} (h : wX4_readFrom d σ post) : vv_MI Y yX4_readFrom cX4_readFrom 5 (some .int) 4 90 [.ref (vv_q Y d), .ref (vv_q Y 1)] σ post := by
  refine vv_ofI (by decide) (Nat.le_of_ble_eq_true rfl) (fun X C => ?_)
  have C : VC Y X RX4 cX4_readFrom 5 (some .int) 4 90 := C
  refine vv_sub [0, 1] (L' := [(0, .ref (vv_q Y d)), (1, .ref (vv_q Y 1))]) rfl ?_
  refine vv_aload_n C 0 dX4_readFrom_0 rfl rfl ?_
  refine vv_callV (rest := []) C yk_X4_clear vk_X4_clear lk_X4_32 kc_X4.1 (s_X4 hY hd) dX4_readFrom_1 (mX4_clear hY hd h) rfl rfl ⟨Nat.le_of_ble_eq_true rfl, Nat.le_of_ble_eq_true rfl⟩ (Nat.le_of_ble_eq_true rfl) (fun σ1 h => ?_)
  refine vv_iconst C dX4_readFrom_4 ki_0 ?_
  refine vv_istore_n (L' := [(2, .int (0 : Int32)), (0, .ref (vv_q Y d)), (1, .ref (vv_q Y 1))]) C dX4_readFrom_5 rfl (by decide) rfl ?_
  refine vv_iconst C dX4_readFrom_6 ki_0 ?_
  refine vv_istore_n (L' := [(3, .int (0 : Int32)), (2, .int (0 : Int32)), (0, .ref (vv_q Y d)), (1, .ref (vv_q Y 1))]) C dX4_readFrom_7 rfl (by decide) rfl ?_
  refine vv_join (fun k => ∀ (σ2 : vv_S), k σ2 → VJ Y X (va_Qi post (vv_B Y) X.2) 5 61 [(0, .ref (vv_q Y d))] [] σ2) h (fun σ2 h => ?_) (fun k61_2 hJk61_2 h => ?_)
  · refine vv_aload_n C 0 dX4_readFrom_61 rfl rfl ?_
    refine vv_getr (r := (d + 3)) C kc_X4 (s_X4 hY hd) 7 (by decide) rfl fk_X4_21 dX4_readFrom_62 ?_
    refine vv_callV (rest := []) C yk_X1_settle vk_X1_settle lk_X4_52 kc_X1.1 (s_X1 hY (is_X1_of hd)) dX4_readFrom_65 (mX1_settle hY (is_X1_of hd) h) rfl rfl ⟨Nat.le_of_ble_eq_true rfl, Nat.le_of_ble_eq_true rfl⟩ (Nat.le_of_ble_eq_true rfl) (fun σ4 h => ?_)
    refine vv_bipush C dX4_readFrom_68 kb_m4 ?_
    exact vv_iret C dX4_readFrom_70 h
  · refine vv_join (fun k => ∀ (v5 : Int32) (σ6 : vv_S), k v5 σ6 → VJ Y X (va_Qi post (vv_B Y) X.2) 5 50 [(2, .int v5)] [] σ6) h (fun v5 σ6 h => ?_) (fun k50_6 hJk50_6 h => ?_)
    · refine vv_iload_n C 0 dX4_readFrom_50 rfl rfl ?_
      exact vv_iret C dX4_readFrom_51 h
    · obtain ⟨n11, h⟩ := h
      have hl1 : ∀ (n11 : Nat) (v8 : Int32) (v9 : Int32) (σ10 : vv_S), lX4_readFrom_1 k61_2 k50_6 d n11 v8 v9 σ10 → VJ Y X (va_Qi post (vv_B Y) X.2) 5 8 [(0, .ref (vv_q Y d)), (1, .ref (vv_q Y 1)), (2, .int v8), (3, .int v9)] [] σ10 := by
        clear h
        intro n11
        induction n11 with
        | zero => intro v8 v9 σ10 h; exact False.elim h
        | succ n11 ih1 =>
          intro v8 v9 σ10 h
          refine vv_iload_n C 3 dX4_readFrom_8 rfl rfl ?_
          refine vv_sipush C dX4_readFrom_9 ks_200 ?_
          refine vv_icmp_ge (pc := 12) C 61 dX4_readFrom_12 (by decide) (fun hc12 => ?_) (fun hc12 => ?_)
          · replace h := h.1 hc12
            refine vv_sub [0] (L' := [(0, .ref (vv_q Y d))]) rfl ?_
            exact hJk61_2 _ h
          · replace h := h.2 hc12
            refine vv_iload_n C 2 dX4_readFrom_15 rfl rfl ?_
            refine vv_aload_n C 1 dX4_readFrom_16 rfl rfl ?_
            refine vv_callI (rest := [.int v8]) C yk_X7_size vk_X7_size lk_X4_35 kc_X7.1 (s_X7 hY) dX4_readFrom_17 (mX7_size hY h) rfl rfl ⟨Nat.le_of_ble_eq_true rfl, Nat.le_of_ble_eq_true rfl⟩ (Nat.le_of_ble_eq_true rfl) (fun r14 σ13 h => ?_)
            refine vv_icmp_ge (pc := 20) C 61 dX4_readFrom_20 (by decide) (fun hc15 => ?_) (fun hc15 => ?_)
            · replace h := h.1 hc15
              refine vv_sub [0] (L' := [(0, .ref (vv_q Y d))]) rfl ?_
              exact hJk61_2 _ h
            · replace h := h.2 hc15
              refine vv_aload_n C 1 dX4_readFrom_23 rfl rfl ?_
              refine vv_iload_n C 2 dX4_readFrom_24 rfl rfl ?_
              refine vv_callI (rest := []) C yk_X7_readItem vk_X7_readItem lk_X4_41 kc_X7.1 (s_X7 hY) dX4_readFrom_25 (mX7_readItem hY h) rfl rfl ⟨Nat.le_of_ble_eq_true rfl, Nat.le_of_ble_eq_true rfl⟩ (Nat.le_of_ble_eq_true rfl) (fun r17 σ16 h => ?_)
              refine vv_istore (L' := [(4, .int r17), (0, .ref (vv_q Y d)), (1, .ref (vv_q Y 1)), (2, .int v8), (3, .int v9)]) C dX4_readFrom_28 (by decide) rfl ?_
              refine vv_iload C 0 dX4_readFrom_30 rfl ?_
              refine vv_bipush C dX4_readFrom_32 kb_m4 ?_
              refine vv_icmp_eq (pc := 34) C 50 dX4_readFrom_34 (by decide) (fun hc18 => ?_) (fun hc18 => ?_)
              · replace h := h.1 hc18
                refine vv_sub [3] (L' := [(2, .int v8)]) rfl ?_
                exact hJk50_6 _ _ h
              · replace h := h.2 hc18
                refine vv_aload_n C 1 dX4_readFrom_37 rfl rfl ?_
                refine vv_aload_n C 2 dX4_readFrom_38 rfl rfl ?_
                refine vv_iload_n C 3 dX4_readFrom_39 rfl rfl ?_
                refine vv_callI (rest := [.ref (vv_q Y d)]) C yk_X7_letterAt vk_X7_letterAt lk_X4_45 kc_X7.1 (s_X7 hY) dX4_readFrom_40 (mX7_letterAt hY h) rfl rfl ⟨Nat.le_of_ble_eq_true rfl, Nat.le_of_ble_eq_true rfl⟩ (Nat.le_of_ble_eq_true rfl) (fun r20 σ19 h => ?_)
                refine vv_aload_n C 2 dX4_readFrom_43 rfl rfl ?_
                refine vv_callI (rest := []) C yk_X4_takeItem vk_X4_takeItem lk_X4_48 kc_X4.1 (s_X4 hY hd) dX4_readFrom_44 (mX4_takeItem hY hd h) rfl rfl ⟨Nat.le_of_ble_eq_true rfl, Nat.le_of_ble_eq_true rfl⟩ (Nat.le_of_ble_eq_true rfl) (fun r22 σ21 h => ?_)
                refine vv_if_ne (pc := 47) C 52 dX4_readFrom_47 (by decide) (fun hc23 => ?_) (fun hc23 => ?_)
                · replace h := h.1 hc23
                  refine vv_iload C 0 dX4_readFrom_52 rfl ?_
                  refine vv_istore_n (L' := [(2, .int r17), (4, .int r17), (0, .ref (vv_q Y d)), (1, .ref (vv_q Y 1)), (3, .int v9)]) C dX4_readFrom_54 rfl (by decide) rfl ?_
                  obtain ⟨v24, ev24⟩ : ∃ z : Int32, z = v9 + (1 : Int32) := ⟨_, rfl⟩
                  replace h := h v24 ev24
                  refine vv_iinc (v := v24) (L' := [(3, .int v24), (2, .int r17), (4, .int r17), (0, .ref (vv_q Y d)), (1, .ref (vv_q Y 1))]) C 4 dX4_readFrom_55 rfl ((kinc ki_1).trans ev24.symm) (by decide) rfl ?_
                  refine vv_goto (pc := 58) (tgt := 8) C dX4_readFrom_58 (by decide) ?_
                  refine vv_sub [3, 4, 1, 0] (L' := [(0, .ref (vv_q Y d)), (1, .ref (vv_q Y 1)), (2, .int r17), (3, .int v24)]) rfl ?_
                  exact ih1 _ _ _ h
                · replace h := h.2 hc23
                  refine vv_sub [3] (L' := [(2, .int v8)]) rfl ?_
                  exact hJk50_6 _ _ h
      refine vv_sub [2, 3, 1, 0] (L' := [(0, .ref (vv_q Y d)), (1, .ref (vv_q Y 1)), (2, .int (0 : Int32)), (3, .int (0 : Int32))]) rfl ?_
      exact hl1 n11 _ _ _ h
set_option maxHeartbeats 2000000 in
set_option maxRecDepth 100000 in
theorem mX4_crew {Y : vv_Y} (hY : Y.2.2.2.2 = wC) {d : Nat} (hd : is_X4 d) {σ : vv_S} {post : vv_S → Prop} (h : wX4_crew d σ post) : vv_MR Y yX4_crew cX4_crew 1 (some (.object "DamOfTurf$Crew")) 0 0 [.ref (vv_q Y d)] σ (d + 10) post := by
  refine vv_ofR (by decide) (Nat.le_of_ble_eq_true rfl) (fun X C => ?_)
  have C : VC Y X RX4 cX4_crew 1 (some (.object "DamOfTurf$Crew")) 0 0 := C
  refine vv_sub [0] (L' := [(0, .ref (vv_q Y d))]) rfl ?_
  refine vv_aload_n C 0 dX4_crew_0 rfl rfl ?_
  refine vv_getr (r := (d + 10)) C kc_X4 (s_X4 hY hd) 8 (by decide) rfl fk_X4_28 dX4_crew_1 ?_
  exact vv_aret C dX4_crew_4 h
set_option maxHeartbeats 2000000 in
set_option maxRecDepth 100000 in
theorem mX5_start {Y : vv_Y} (hY : Y.2.2.2.2 = wC) {d : Nat} (hd : is_X5 d) {a1 : Int32} {a2 : Int32} {σ : vv_S} {post : vv_S → Prop} (h : wX5_start d a1 a2 σ post) : vv_MV Y yX5_start cX5_start 4 none 1 14 [.ref (vv_q Y d), .int a1, .int a2] σ post := by
  refine vv_ofV (by decide) (Nat.le_of_ble_eq_true rfl) (fun X C => ?_)
  have C : VC Y X RX5 cX5_start 4 none 1 14 := C
  refine vv_sub [0, 1, 2] (L' := [(0, .ref (vv_q Y d)), (1, .int a1), (2, .int a2)]) rfl ?_
  refine vv_iconst C dX5_start_0 ki_0 ?_
  refine vv_istore_n (L' := [(3, .int (0 : Int32)), (0, .ref (vv_q Y d)), (1, .int a1), (2, .int a2)]) C dX5_start_1 rfl (by decide) rfl ?_
  refine vv_join (fun k => ∀ (σ1 : vv_S), k σ1 → VJ Y X (va_Qv post (vv_B Y) X.2) 4 21 [(0, .ref (vv_q Y d)), (1, .int a1), (2, .int a2)] [] σ1) h (fun σ1 h => ?_) (fun k21_1 hJk21_1 h => ?_)
  · refine vv_aload_n C 0 dX5_start_21 rfl rfl ?_
    refine vv_getr (r := (d + 1)) C kc_X5 (s_X5 hY hd) 0 (by decide) rfl fk_X5_9 dX5_start_22 ?_
    refine vv_iconst C dX5_start_25 ki_0 ?_
    refine vv_iload_n C 1 dX5_start_26 rfl rfl ?_
    refine vv_iast C (a_X5_inches hY hd) kv_0_8 kn_0 dX5_start_27 (fun σ3 eσ3 => ?_)
    replace h := h σ3 eσ3
    refine vv_aload_n C 0 dX5_start_28 rfl rfl ?_
    refine vv_iload_n C 2 dX5_start_29 rfl rfl ?_
    refine vv_bipush C dX5_start_30 kb_8 ?_
    refine vv_min C lk_X5_15 mk_min (by decide) (Nat.le_of_ble_eq_true rfl) dX5_start_32 ?_
    refine vv_puti C kc_X5 (s_X5 hY hd) 1 (by decide) rfl pf_X5_1 fk_X5_21 dX5_start_35 (fun σ4 eσ4 => ?_)
    replace h := h σ4 eσ4
    exact vv_vret C dX5_start_38 h
  · obtain ⟨n7, h⟩ := h
    have hl1 : ∀ (n7 : Nat) (v5 : Int32) (σ6 : vv_S), lX5_start_1 k21_1 d n7 v5 σ6 → VJ Y X (va_Qv post (vv_B Y) X.2) 4 2 [(0, .ref (vv_q Y d)), (1, .int a1), (2, .int a2), (3, .int v5)] [] σ6 := by
      clear h
      intro n7
      induction n7 with
      | zero => intro v5 σ6 h; exact False.elim h
      | succ n7 ih1 =>
        intro v5 σ6 h
        refine vv_iload_n C 3 dX5_start_2 rfl rfl ?_
        refine vv_bipush C dX5_start_3 kb_8 ?_
        refine vv_icmp_ge (pc := 5) C 21 dX5_start_5 (by decide) (fun hc8 => ?_) (fun hc8 => ?_)
        · replace h := h.1 hc8
          refine vv_sub [0, 1, 2] (L' := [(0, .ref (vv_q Y d)), (1, .int a1), (2, .int a2)]) rfl ?_
          exact hJk21_1 _ h
        · replace h := h.2 hc8
          refine vv_aload_n C 0 dX5_start_8 rfl rfl ?_
          refine vv_getr (r := (d + 1)) C kc_X5 (s_X5 hY hd) 0 (by decide) rfl fk_X5_9 dX5_start_9 ?_
          refine vv_iload_n C 3 dX5_start_12 rfl rfl ?_
          refine vv_iconst C dX5_start_13 ki_0 ?_
          obtain ⟨hi9, h⟩ := h
          refine vv_iast C (a_X5_inches hY hd) hi9 rfl dX5_start_14 (fun σ10 eσ10 => ?_)
          replace h := h σ10 eσ10
          obtain ⟨v11, ev11⟩ : ∃ z : Int32, z = v5 + (1 : Int32) := ⟨_, rfl⟩
          replace h := h v11 ev11
          refine vv_iinc (v := v11) (L' := [(3, .int v11), (0, .ref (vv_q Y d)), (1, .int a1), (2, .int a2)]) C 3 dX5_start_15 rfl ((kinc ki_1).trans ev11.symm) (by decide) rfl ?_
          refine vv_goto (pc := 18) (tgt := 2) C dX5_start_18 (by decide) ?_
          refine vv_sub [1, 2, 3, 0] (L' := [(0, .ref (vv_q Y d)), (1, .int a1), (2, .int a2), (3, .int v11)]) rfl ?_
          exact ih1 _ _ h
    refine vv_sub [1, 2, 3, 0] (L' := [(0, .ref (vv_q Y d)), (1, .int a1), (2, .int a2), (3, .int (0 : Int32))]) rfl ?_
    exact hl1 n7 _ _ h
set_option maxHeartbeats 2000000 in
set_option maxRecDepth 100000 in
theorem mX5_next {Y : vv_Y} (hY : Y.2.2.2.2 = wC) {d : Nat} (hd : is_X5 d) {σ : vv_S} {post : Int32 → vv_S → Prop} (h : wX5_next d σ post) : vv_MI Y yX5_next cX5_next 4 (some .boolean) 0 0 [.ref (vv_q Y d)] σ post := by
  refine vv_ofI (by decide) (Nat.le_of_ble_eq_true rfl) (fun X C => ?_)
  have C : VC Y X RX5 cX5_next 4 (some .boolean) 0 0 := C
  refine vv_sub [0] (L' := [(0, .ref (vv_q Y d))]) rfl ?_
  refine vv_aload_n C 0 dX5_next_0 rfl rfl ?_
  refine vv_geti C kc_X5 (s_X5 hY hd) 1 (by decide) rfl fk_X5_21 dX5_next_1 ?_
  refine vv_iconst C dX5_next_4 ki_1 ?_
  refine vv_isub C dX5_next_5 ?_
  refine vv_nm (fun v1 ev1 => ?_)
  replace h := h v1 ev1
  refine vv_istore_n (L' := [(1, .int v1), (0, .ref (vv_q Y d))]) C dX5_next_6 rfl (by decide) rfl ?_
  refine vv_iload_n C 0 dX5_next_7 rfl rfl ?_
  refine vv_iconst C dX5_next_8 ki_1 ?_
  refine vv_isub C dX5_next_9 ?_
  refine vv_nm (fun v2 ev2 => ?_)
  replace h := h v2 ev2
  refine vv_istore_n (L' := [(2, .int v2), (1, .int v1), (0, .ref (vv_q Y d))]) C dX5_next_10 rfl (by decide) rfl ?_
  refine vv_join (fun k => ∀ (v3 : Int32), k v3 → VJ Y X (va_Qi post (vv_B Y) X.2) 4 24 [(0, .ref (vv_q Y d)), (1, .int v1), (2, .int v3)] [] σ) h (fun v3 h => ?_) (fun k24_3 hJk24_3 h => ?_)
  · refine vv_aload_n C 0 dX5_next_24 rfl rfl ?_
    refine vv_getr (r := (d + 1)) C kc_X5 (s_X5 hY hd) 0 (by decide) rfl fk_X5_9 dX5_next_25 ?_
    refine vv_iload_n C 1 dX5_next_28 rfl rfl ?_
    obtain ⟨hi5, h⟩ := h
    refine vv_iald C (a_X5_inches hY hd) hi5 rfl dX5_next_29 ?_
    refine vv_iconst C dX5_next_30 ki_1 ?_
    refine vv_iadd C dX5_next_31 ?_
    refine vv_nm (fun v6 ev6 => ?_)
    replace h := h v6 ev6
    refine vv_istore_n (L' := [(3, .int v6), (0, .ref (vv_q Y d)), (1, .int v1), (2, .int v3)]) C dX5_next_32 rfl (by decide) rfl ?_
    refine vv_aload_n C 1 dX5_next_33 rfl rfl ?_
    refine vv_getr (r := (d + 1)) C kc_X5 (s_X5 hY hd) 0 (by decide) rfl fk_X5_9 dX5_next_34 ?_
    refine vv_iload_n C 2 dX5_next_37 rfl rfl ?_
    refine vv_iconst C dX5_next_38 ki_0 ?_
    obtain ⟨hi7, h⟩ := h
    refine vv_iast C (a_X5_inches hY hd) hi7 rfl dX5_next_39 (fun σ8 eσ8 => ?_)
    replace h := h σ8 eσ8
    refine vv_aload_n C 1 dX5_next_40 rfl rfl ?_
    refine vv_getr (r := (d + 1)) C kc_X5 (s_X5 hY hd) 0 (by decide) rfl fk_X5_9 dX5_next_41 ?_
    refine vv_iload_n C 3 dX5_next_44 rfl rfl ?_
    refine vv_dup2 C dX5_next_45 rfl rfl ?_
    obtain ⟨hi9, h⟩ := h
    refine vv_iald C (a_X5_inches hY hd) hi9 rfl dX5_next_46 ?_
    refine vv_iconst C dX5_next_47 ki_1 ?_
    refine vv_isub C dX5_next_48 ?_
    obtain ⟨hi10, h⟩ := h
    refine vv_iast C (a_X5_inches hY hd) hi10 rfl dX5_next_49 (fun σ11 eσ11 => ?_)
    replace h := h σ11 eσ11
    refine vv_aload_n C 1 dX5_next_50 rfl rfl ?_
    refine vv_getr (r := (d + 1)) C kc_X5 (s_X5 hY hd) 0 (by decide) rfl fk_X5_9 dX5_next_51 ?_
    refine vv_iload_n C 3 dX5_next_54 rfl rfl ?_
    refine vv_iconst C dX5_next_55 ki_1 ?_
    refine vv_iadd C dX5_next_56 ?_
    refine vv_iload_n C 0 dX5_next_57 rfl rfl ?_
    obtain ⟨hi12, h⟩ := h
    refine vv_iast C (a_X5_inches hY hd) hi12 rfl dX5_next_58 (fun σ13 eσ13 => ?_)
    replace h := h σ13 eσ13
    refine vv_iconst C dX5_next_59 ki_1 ?_
    exact vv_zret C (Or.inr rfl) dX5_next_60 h
  · obtain ⟨n15, h⟩ := h
    have hl1 : ∀ (n15 : Nat) (v14 : Int32), lX5_next_1 post σ d k24_3 n15 v14 → VJ Y X (va_Qi post (vv_B Y) X.2) 4 11 [(0, .ref (vv_q Y d)), (1, .int v1), (2, .int v14)] [] σ := by
      clear h
      intro n15
      induction n15 with
      | zero => intro v14 h; exact False.elim h
      | succ n15 ih1 =>
        intro v14 h
        refine vv_iload_n C 2 dX5_next_11 rfl rfl ?_
        refine vv_if_lt (pc := 12) C 67 dX5_next_12 (by decide) (fun hc16 => ?_) (fun hc16 => ?_)
        · replace h := h.1 hc16
          refine vv_iconst C dX5_next_67 ki_0 ?_
          exact vv_zret C (Or.inl rfl) dX5_next_68 h
        · replace h := h.2 hc16
          refine vv_aload_n C 0 dX5_next_15 rfl rfl ?_
          refine vv_getr (r := (d + 1)) C kc_X5 (s_X5 hY hd) 0 (by decide) rfl fk_X5_9 dX5_next_16 ?_
          refine vv_iload_n C 2 dX5_next_19 rfl rfl ?_
          obtain ⟨hi17, h⟩ := h
          refine vv_iald C (a_X5_inches hY hd) hi17 rfl dX5_next_20 ?_
          refine vv_if_le (pc := 21) C 61 dX5_next_21 (by decide) (fun hc18 => ?_) (fun hc18 => ?_)
          · replace h := h.1 hc18
            obtain ⟨v19, ev19⟩ : ∃ z : Int32, z = v14 + (-1 : Int32) := ⟨_, rfl⟩
            replace h := h v19 ev19
            refine vv_iinc (v := v19) (L' := [(2, .int v19), (0, .ref (vv_q Y d)), (1, .int v1)]) C 2 dX5_next_61 rfl ((kinc ki_m1).trans ev19.symm) (by decide) rfl ?_
            refine vv_goto (pc := 64) (tgt := 11) C dX5_next_64 (by decide) ?_
            refine vv_sub [1, 2, 0] (L' := [(0, .ref (vv_q Y d)), (1, .int v1), (2, .int v19)]) rfl ?_
            exact ih1 _ h
          · replace h := h.2 hc18
            refine vv_sub [0, 1, 2] (L' := [(0, .ref (vv_q Y d)), (1, .int v1), (2, .int v14)]) rfl ?_
            exact hJk24_3 _ h
    refine vv_sub [2, 1, 0] (L' := [(0, .ref (vv_q Y d)), (1, .int v1), (2, .int v2)]) rfl ?_
    exact hl1 n15 _ h
set_option maxHeartbeats 2000000 in
set_option maxRecDepth 100000 in
theorem mX5_inchesAt {Y : vv_Y} (hY : Y.2.2.2.2 = wC) {d : Nat} (hd : is_X5 d) {a1 : Int32} {σ : vv_S} {post : Int32 → vv_S → Prop} (h : wX5_inchesAt d a1 σ post) : vv_MI Y yX5_inchesAt cX5_inchesAt 2 (some .int) 0 0 [.ref (vv_q Y d), .int a1] σ post := by
  refine vv_ofI (by decide) (Nat.le_of_ble_eq_true rfl) (fun X C => ?_)
  have C : VC Y X RX5 cX5_inchesAt 2 (some .int) 0 0 := C
  refine vv_sub [0, 1] (L' := [(0, .ref (vv_q Y d)), (1, .int a1)]) rfl ?_
  refine vv_iload_n C 1 dX5_inchesAt_0 rfl rfl ?_
  refine vv_join (fun k => ∀ (v1 : Int32), k v1 → VJ Y X (va_Qi post (vv_B Y) X.2) 2 20 [] [.int v1] σ) h (fun v1 h => ?_) (fun k20_1 hJk20_1 h => ?_)
  · exact vv_iret C dX5_inchesAt_20 h
  · refine vv_join (fun k =>  k → VJ Y X (va_Qi post (vv_B Y) X.2) 2 19 [] [] σ) h (fun h => ?_) (fun k19_2 hJk19_2 h => ?_)
    · refine vv_iconst C dX5_inchesAt_19 ki_0 ?_
      refine vv_sub [] (L' := []) rfl ?_
      exact hJk20_1 _ h
    · refine vv_if_lt (pc := 1) C 19 dX5_inchesAt_1 (by decide) (fun hc4 => ?_) (fun hc4 => ?_)
      · replace h := h.1 hc4
        refine vv_sub [] (L' := []) rfl ?_
        exact hJk19_2 h
      · replace h := h.2 hc4
        refine vv_iload_n C 1 dX5_inchesAt_4 rfl rfl ?_
        refine vv_bipush C dX5_inchesAt_5 kb_8 ?_
        refine vv_icmp_ge (pc := 7) C 19 dX5_inchesAt_7 (by decide) (fun hc5 => ?_) (fun hc5 => ?_)
        · replace h := h.1 hc5
          refine vv_sub [] (L' := []) rfl ?_
          exact hJk19_2 h
        · replace h := h.2 hc5
          refine vv_aload_n C 0 dX5_inchesAt_10 rfl rfl ?_
          refine vv_getr (r := (d + 1)) C kc_X5 (s_X5 hY hd) 0 (by decide) rfl fk_X5_9 dX5_inchesAt_11 ?_
          refine vv_iload_n C 1 dX5_inchesAt_14 rfl rfl ?_
          obtain ⟨hi6, h⟩ := h
          refine vv_iald C (a_X5_inches hY hd) hi6 rfl dX5_inchesAt_15 ?_
          refine vv_goto (pc := 16) (tgt := 20) C dX5_inchesAt_16 (by decide) ?_
          refine vv_sub [] (L' := []) rfl ?_
          exact hJk20_1 _ h
set_option maxHeartbeats 2000000 in
set_option maxRecDepth 100000 in
theorem mX5_copyFrom {Y : vv_Y} (hY : Y.2.2.2.2 = wC) {d : Nat} (hd : is_X5 d) {o1 : Nat} (ho1 : is_X5 o1) {σ : vv_S} {post : vv_S → Prop} (h : wX5_copyFrom d o1 σ post) : vv_MV Y yX5_copyFrom cX5_copyFrom 3 none 0 0 [.ref (vv_q Y d), .ref (vv_q Y o1)] σ post := by
  refine vv_ofV (by decide) (Nat.le_of_ble_eq_true rfl) (fun X C => ?_)
  have C : VC Y X RX5 cX5_copyFrom 3 none 0 0 := C
  refine vv_sub [0, 1] (L' := [(0, .ref (vv_q Y d)), (1, .ref (vv_q Y o1))]) rfl ?_
  refine vv_iconst C dX5_copyFrom_0 ki_0 ?_
  refine vv_istore_n (L' := [(2, .int (0 : Int32)), (0, .ref (vv_q Y d)), (1, .ref (vv_q Y o1))]) C dX5_copyFrom_1 rfl (by decide) rfl ?_
  refine vv_join (fun k => ∀ (σ1 : vv_S), k σ1 → VJ Y X (va_Qv post (vv_B Y) X.2) 3 26 [(0, .ref (vv_q Y d)), (1, .ref (vv_q Y o1))] [] σ1) h (fun σ1 h => ?_) (fun k26_1 hJk26_1 h => ?_)
  · refine vv_aload_n C 0 dX5_copyFrom_26 rfl rfl ?_
    refine vv_aload_n C 1 dX5_copyFrom_27 rfl rfl ?_
    refine vv_geti C kc_X5 (s_X5 hY ho1) 1 (by decide) rfl fk_X5_21 dX5_copyFrom_28 ?_
    refine vv_puti C kc_X5 (s_X5 hY hd) 1 (by decide) rfl pf_X5_1 fk_X5_21 dX5_copyFrom_31 (fun σ3 eσ3 => ?_)
    replace h := h σ3 eσ3
    exact vv_vret C dX5_copyFrom_34 h
  · obtain ⟨n6, h⟩ := h
    have hl1 : ∀ (n6 : Nat) (v4 : Int32) (σ5 : vv_S), lX5_copyFrom_1 k26_1 d o1 n6 v4 σ5 → VJ Y X (va_Qv post (vv_B Y) X.2) 3 2 [(0, .ref (vv_q Y d)), (1, .ref (vv_q Y o1)), (2, .int v4)] [] σ5 := by
      clear h
      intro n6
      induction n6 with
      | zero => intro v4 σ5 h; exact False.elim h
      | succ n6 ih1 =>
        intro v4 σ5 h
        refine vv_iload_n C 2 dX5_copyFrom_2 rfl rfl ?_
        refine vv_bipush C dX5_copyFrom_3 kb_8 ?_
        refine vv_icmp_ge (pc := 5) C 26 dX5_copyFrom_5 (by decide) (fun hc7 => ?_) (fun hc7 => ?_)
        · replace h := h.1 hc7
          refine vv_sub [0, 1] (L' := [(0, .ref (vv_q Y d)), (1, .ref (vv_q Y o1))]) rfl ?_
          exact hJk26_1 _ h
        · replace h := h.2 hc7
          refine vv_aload_n C 0 dX5_copyFrom_8 rfl rfl ?_
          refine vv_getr (r := (d + 1)) C kc_X5 (s_X5 hY hd) 0 (by decide) rfl fk_X5_9 dX5_copyFrom_9 ?_
          refine vv_iload_n C 2 dX5_copyFrom_12 rfl rfl ?_
          refine vv_aload_n C 1 dX5_copyFrom_13 rfl rfl ?_
          refine vv_getr (r := (o1 + 1)) C kc_X5 (s_X5 hY ho1) 0 (by decide) rfl fk_X5_9 dX5_copyFrom_14 ?_
          refine vv_iload_n C 2 dX5_copyFrom_17 rfl rfl ?_
          obtain ⟨hi8, h⟩ := h
          refine vv_iald C (a_X5_inches hY ho1) hi8 rfl dX5_copyFrom_18 ?_
          obtain ⟨hi9, h⟩ := h
          refine vv_iast C (a_X5_inches hY hd) hi9 rfl dX5_copyFrom_19 (fun σ10 eσ10 => ?_)
          replace h := h σ10 eσ10
          obtain ⟨v11, ev11⟩ : ∃ z : Int32, z = v4 + (1 : Int32) := ⟨_, rfl⟩
          replace h := h v11 ev11
          refine vv_iinc (v := v11) (L' := [(2, .int v11), (0, .ref (vv_q Y d)), (1, .ref (vv_q Y o1))]) C 2 dX5_copyFrom_20 rfl ((kinc ki_1).trans ev11.symm) (by decide) rfl ?_
          refine vv_goto (pc := 23) (tgt := 2) C dX5_copyFrom_23 (by decide) ?_
          refine vv_sub [1, 2, 0] (L' := [(0, .ref (vv_q Y d)), (1, .ref (vv_q Y o1)), (2, .int v11)]) rfl ?_
          exact ih1 _ _ h
    refine vv_sub [1, 2, 0] (L' := [(0, .ref (vv_q Y d)), (1, .ref (vv_q Y o1)), (2, .int (0 : Int32))]) rfl ?_
    exact hl1 n6 _ _ h
set_option maxHeartbeats 2000000 in
set_option maxRecDepth 100000 in
theorem mX6_size {Y : vv_Y} (hY : Y.2.2.2.2 = wC)  {σ : vv_S} {post : Int32 → vv_S → Prop} (h : wX6_size σ post) : vv_MI Y yX6_size cX6_size 1 (some .int) 0 0 [.ref (vv_q Y 66)] σ post := by
  refine vv_ofI (by decide) (Nat.le_of_ble_eq_true rfl) (fun X C => ?_)
  have C : VC Y X RX6 cX6_size 1 (some .int) 0 0 := C
  refine vv_sub [0] (L' := [(0, .ref (vv_q Y 66))]) rfl ?_
  refine vv_aload_n C 0 dX6_size_0 rfl rfl ?_
  refine vv_geti C kc_X6 (s_X6 hY) 2 (by decide) rfl fk_X6_18 dX6_size_1 ?_
  exact vv_iret C dX6_size_4 h
set_option maxHeartbeats 2000000 in
set_option maxRecDepth 100000 in
theorem mX6_clear {Y : vv_Y} (hY : Y.2.2.2.2 = wC)  {σ : vv_S} {post : vv_S → Prop} (h : wX6_clear σ post) : vv_MV Y yX6_clear cX6_clear 1 none 0 0 [.ref (vv_q Y 66)] σ post := by
  refine vv_ofV (by decide) (Nat.le_of_ble_eq_true rfl) (fun X C => ?_)
  have C : VC Y X RX6 cX6_clear 1 none 0 0 := C
  refine vv_sub [0] (L' := [(0, .ref (vv_q Y 66))]) rfl ?_
  refine vv_aload_n C 0 dX6_clear_0 rfl rfl ?_
  refine vv_iconst C dX6_clear_1 ki_0 ?_
  refine vv_puti C kc_X6 (s_X6 hY) 2 (by decide) rfl pf_X6_2 fk_X6_18 dX6_clear_2 (fun σ1 eσ1 => ?_)
  replace h := h σ1 eσ1
  exact vv_vret C dX6_clear_5 h
set_option maxHeartbeats 2000000 in
set_option maxRecDepth 100000 in
theorem mX6_add {Y : vv_Y} (hY : Y.2.2.2.2 = wC) {a1 : Int32} {a2 : Int32} {σ : vv_S} {post : Int32 → vv_S → Prop} (h : wX6_add a1 a2 σ post) : vv_MI Y yX6_add cX6_add 3 (some .boolean) 0 0 [.ref (vv_q Y 66), .int a1, .int a2] σ post := by
  refine vv_ofI (by decide) (Nat.le_of_ble_eq_true rfl) (fun X C => ?_)
  have C : VC Y X RX6 cX6_add 3 (some .boolean) 0 0 := C
  refine vv_sub [0, 1, 2] (L' := [(0, .ref (vv_q Y 66)), (1, .int a1), (2, .int a2)]) rfl ?_
  refine vv_aload_n C 0 dX6_add_0 rfl rfl ?_
  refine vv_geti C kc_X6 (s_X6 hY) 2 (by decide) rfl fk_X6_18 dX6_add_1 ?_
  refine vv_join (fun k =>  k → VJ Y X (va_Qi post (vv_B Y) X.2) 3 16 [] [] σ) h (fun h => ?_) (fun k16_0 hJk16_0 h => ?_)
  · refine vv_iconst C dX6_add_16 ki_0 ?_
    exact vv_zret C (Or.inl rfl) dX6_add_17 h
  · refine vv_if_lt (pc := 4) C 16 dX6_add_4 (by decide) (fun hc2 => ?_) (fun hc2 => ?_)
    · replace h := h.1 hc2
      refine vv_sub [] (L' := []) rfl ?_
      exact hJk16_0 h
    · replace h := h.2 hc2
      refine vv_aload_n C 0 dX6_add_7 rfl rfl ?_
      refine vv_geti C kc_X6 (s_X6 hY) 2 (by decide) rfl fk_X6_18 dX6_add_8 ?_
      refine vv_bipush C dX6_add_11 kb_8 ?_
      refine vv_icmp_lt (pc := 13) C 18 dX6_add_13 (by decide) (fun hc3 => ?_) (fun hc3 => ?_)
      · replace h := h.1 hc3
        refine vv_aload_n C 0 dX6_add_18 rfl rfl ?_
        refine vv_getr (r := 67) C kc_X6 (s_X6 hY) 0 (by decide) rfl fk_X6_9 dX6_add_19 ?_
        refine vv_aload_n C 0 dX6_add_22 rfl rfl ?_
        refine vv_geti C kc_X6 (s_X6 hY) 2 (by decide) rfl fk_X6_18 dX6_add_23 ?_
        refine vv_iload_n C 1 dX6_add_26 rfl rfl ?_
        obtain ⟨hi4, h⟩ := h
        refine vv_iast C (a_X6_levels hY) hi4 rfl dX6_add_27 (fun σ5 eσ5 => ?_)
        replace h := h σ5 eσ5
        refine vv_aload_n C 0 dX6_add_28 rfl rfl ?_
        refine vv_getr (r := 68) C kc_X6 (s_X6 hY) 1 (by decide) rfl fk_X6_15 dX6_add_29 ?_
        refine vv_aload_n C 0 dX6_add_32 rfl rfl ?_
        refine vv_geti C kc_X6 (s_X6 hY) 2 (by decide) rfl fk_X6_18 dX6_add_33 ?_
        refine vv_iload_n C 2 dX6_add_36 rfl rfl ?_
        obtain ⟨hi6, h⟩ := h
        refine vv_iast C (a_X6_times hY) hi6 rfl dX6_add_37 (fun σ7 eσ7 => ?_)
        replace h := h σ7 eσ7
        refine vv_aload_n C 0 dX6_add_38 rfl rfl ?_
        refine vv_dup C dX6_add_39 rfl ?_
        refine vv_geti C kc_X6 (s_X6 hY) 2 (by decide) rfl fk_X6_18 dX6_add_40 ?_
        refine vv_iconst C dX6_add_43 ki_1 ?_
        refine vv_iadd C dX6_add_44 ?_
        refine vv_puti C kc_X6 (s_X6 hY) 2 (by decide) rfl pf_X6_2 fk_X6_18 dX6_add_45 (fun σ8 eσ8 => ?_)
        replace h := h σ8 eσ8
        refine vv_iconst C dX6_add_48 ki_1 ?_
        exact vv_zret C (Or.inr rfl) dX6_add_49 h
      · replace h := h.2 hc3
        refine vv_sub [] (L' := []) rfl ?_
        exact hJk16_0 h
set_option maxHeartbeats 2000000 in
set_option maxRecDepth 100000 in
theorem mX6_agreeWith {Y : vv_Y} (hY : Y.2.2.2.2 = wC) {a1 : Int32} {o2 : Nat} (ho2 : is_X4 o2) {σ : vv_S} {post : Int32 → vv_S → Prop} (h : wX6_agreeWith a1 o2 σ post) : vv_MI Y yX6_agreeWith cX6_agreeWith 4 (some .boolean) 2 45 [.ref (vv_q Y 66), .int a1, .ref (vv_q Y o2)] σ post := by
  refine vv_ofI (by decide) (Nat.le_of_ble_eq_true rfl) (fun X C => ?_)
  have C : VC Y X RX6 cX6_agreeWith 4 (some .boolean) 2 45 := C
  refine vv_sub [0, 1, 2] (L' := [(0, .ref (vv_q Y 66)), (1, .int a1), (2, .ref (vv_q Y o2))]) rfl ?_
  refine vv_iconst C dX6_agreeWith_0 ki_0 ?_
  refine vv_istore_n (L' := [(3, .int (0 : Int32)), (0, .ref (vv_q Y 66)), (1, .int a1), (2, .ref (vv_q Y o2))]) C dX6_agreeWith_1 rfl (by decide) rfl ?_
  refine vv_join (fun k => ∀ (σ1 : vv_S), k σ1 → VJ Y X (va_Qi post (vv_B Y) X.2) 4 45 [] [] σ1) h (fun σ1 h => ?_) (fun k45_1 hJk45_1 h => ?_)
  · refine vv_iconst C dX6_agreeWith_45 ki_1 ?_
    exact vv_zret C (Or.inr rfl) dX6_agreeWith_46 h
  · obtain ⟨n5, h⟩ := h
    have hl1 : ∀ (n5 : Nat) (v3 : Int32) (σ4 : vv_S), lX6_agreeWith_1 k45_1 o2 a1 post n5 v3 σ4 → VJ Y X (va_Qi post (vv_B Y) X.2) 4 2 [(0, .ref (vv_q Y 66)), (1, .int a1), (2, .ref (vv_q Y o2)), (3, .int v3)] [] σ4 := by
      clear h
      intro n5
      induction n5 with
      | zero => intro v3 σ4 h; exact False.elim h
      | succ n5 ih1 =>
        intro v3 σ4 h
        refine vv_iload_n C 3 dX6_agreeWith_2 rfl rfl ?_
        refine vv_aload_n C 0 dX6_agreeWith_3 rfl rfl ?_
        refine vv_geti C kc_X6 (s_X6 hY) 2 (by decide) rfl fk_X6_18 dX6_agreeWith_4 ?_
        refine vv_icmp_ge (pc := 7) C 45 dX6_agreeWith_7 (by decide) (fun hc6 => ?_) (fun hc6 => ?_)
        · replace h := h.1 hc6
          refine vv_sub [] (L' := []) rfl ?_
          exact hJk45_1 _ h
        · replace h := h.2 hc6
          refine vv_iload_n C 3 dX6_agreeWith_10 rfl rfl ?_
          refine vv_bipush C dX6_agreeWith_11 kb_8 ?_
          refine vv_icmp_ge (pc := 13) C 45 dX6_agreeWith_13 (by decide) (fun hc7 => ?_) (fun hc7 => ?_)
          · replace h := h.1 hc7
            refine vv_sub [] (L' := []) rfl ?_
            exact hJk45_1 _ h
          · replace h := h.2 hc7
            refine vv_aload_n C 2 dX6_agreeWith_16 rfl rfl ?_
            refine vv_iload_n C 1 dX6_agreeWith_17 rfl rfl ?_
            refine vv_aload_n C 0 dX6_agreeWith_18 rfl rfl ?_
            refine vv_getr (r := 68) C kc_X6 (s_X6 hY) 1 (by decide) rfl fk_X6_15 dX6_agreeWith_19 ?_
            refine vv_iload_n C 3 dX6_agreeWith_22 rfl rfl ?_
            obtain ⟨hi8, h⟩ := h
            refine vv_iald C (a_X6_times hY) hi8 rfl dX6_agreeWith_23 ?_
            refine vv_imul C dX6_agreeWith_24 ?_
            refine vv_callI (rest := []) C yk_X4_levelOf vk_X4_levelOf lk_X6_22 kc_X4.1 (s_X4 hY ho2) dX6_agreeWith_25 (mX4_levelOf hY ho2 h) rfl rfl ⟨Nat.le_of_ble_eq_true rfl, Nat.le_of_ble_eq_true rfl⟩ (Nat.le_of_ble_eq_true rfl) (fun r10 σ9 h => ?_)
            refine vv_aload_n C 0 dX6_agreeWith_28 rfl rfl ?_
            refine vv_getr (r := 67) C kc_X6 (s_X6 hY) 0 (by decide) rfl fk_X6_9 dX6_agreeWith_29 ?_
            refine vv_iload_n C 3 dX6_agreeWith_32 rfl rfl ?_
            obtain ⟨hi11, h⟩ := h
            refine vv_iald C (a_X6_levels hY) hi11 rfl dX6_agreeWith_33 ?_
            refine vv_icmp_eq (pc := 34) C 39 dX6_agreeWith_34 (by decide) (fun hc12 => ?_) (fun hc12 => ?_)
            · replace h := h.1 hc12
              obtain ⟨v13, ev13⟩ : ∃ z : Int32, z = v3 + (1 : Int32) := ⟨_, rfl⟩
              replace h := h v13 ev13
              refine vv_iinc (v := v13) (L' := [(3, .int v13), (0, .ref (vv_q Y 66)), (1, .int a1), (2, .ref (vv_q Y o2))]) C 3 dX6_agreeWith_39 rfl ((kinc ki_1).trans ev13.symm) (by decide) rfl ?_
              refine vv_goto (pc := 42) (tgt := 2) C dX6_agreeWith_42 (by decide) ?_
              refine vv_sub [1, 2, 3, 0] (L' := [(0, .ref (vv_q Y 66)), (1, .int a1), (2, .ref (vv_q Y o2)), (3, .int v13)]) rfl ?_
              exact ih1 _ _ h
            · replace h := h.2 hc12
              refine vv_iconst C dX6_agreeWith_37 ki_0 ?_
              exact vv_zret C (Or.inl rfl) dX6_agreeWith_38 h
    refine vv_sub [1, 2, 3, 0] (L' := [(0, .ref (vv_q Y 66)), (1, .int a1), (2, .ref (vv_q Y o2)), (3, .int (0 : Int32))]) rfl ?_
    exact hl1 n5 _ _ h
set_option maxHeartbeats 2000000 in
set_option maxRecDepth 100000 in
theorem mX7_clear {Y : vv_Y} (hY : Y.2.2.2.2 = wC)  {σ : vv_S} {post : vv_S → Prop} (h : wX7_clear σ post) : vv_MV Y yX7_clear cX7_clear 1 none 0 0 [.ref (vv_q Y 1)] σ post := by
  refine vv_ofV (by decide) (Nat.le_of_ble_eq_true rfl) (fun X C => ?_)
  have C : VC Y X RX7 cX7_clear 1 none 0 0 := C
  refine vv_sub [0] (L' := [(0, .ref (vv_q Y 1))]) rfl ?_
  refine vv_aload_n C 0 dX7_clear_0 rfl rfl ?_
  refine vv_iconst C dX7_clear_1 ki_0 ?_
  refine vv_puti C kc_X7 (s_X7 hY) 1 (by decide) rfl pf_X7_1 fk_X7_18 dX7_clear_2 (fun σ1 eσ1 => ?_)
  replace h := h σ1 eσ1
  exact vv_vret C dX7_clear_5 h
set_option maxHeartbeats 2000000 in
set_option maxRecDepth 100000 in
theorem mX7_add {Y : vv_Y} (hY : Y.2.2.2.2 = wC) {a1 : Int32} {σ : vv_S} {post : Int32 → vv_S → Prop} (h : wX7_add a1 σ post) : vv_MI Y yX7_add cX7_add 2 (some .boolean) 0 0 [.ref (vv_q Y 1), .int a1] σ post := by
  refine vv_ofI (by decide) (Nat.le_of_ble_eq_true rfl) (fun X C => ?_)
  have C : VC Y X RX7 cX7_add 2 (some .boolean) 0 0 := C
  refine vv_sub [0, 1] (L' := [(0, .ref (vv_q Y 1)), (1, .int a1)]) rfl ?_
  refine vv_aload_n C 0 dX7_add_0 rfl rfl ?_
  refine vv_geti C kc_X7 (s_X7 hY) 1 (by decide) rfl fk_X7_18 dX7_add_1 ?_
  refine vv_join (fun k =>  k → VJ Y X (va_Qi post (vv_B Y) X.2) 2 17 [] [] σ) h (fun h => ?_) (fun k17_0 hJk17_0 h => ?_)
  · refine vv_iconst C dX7_add_17 ki_0 ?_
    exact vv_zret C (Or.inl rfl) dX7_add_18 h
  · refine vv_if_lt (pc := 4) C 17 dX7_add_4 (by decide) (fun hc2 => ?_) (fun hc2 => ?_)
    · replace h := h.1 hc2
      refine vv_sub [] (L' := []) rfl ?_
      exact hJk17_0 h
    · replace h := h.2 hc2
      refine vv_aload_n C 0 dX7_add_7 rfl rfl ?_
      refine vv_geti C kc_X7 (s_X7 hY) 1 (by decide) rfl fk_X7_18 dX7_add_8 ?_
      refine vv_sipush C dX7_add_11 ks_200 ?_
      refine vv_icmp_lt (pc := 14) C 19 dX7_add_14 (by decide) (fun hc3 => ?_) (fun hc3 => ?_)
      · replace h := h.1 hc3
        refine vv_aload_n C 0 dX7_add_19 rfl rfl ?_
        refine vv_getr (r := 2) C kc_X7 (s_X7 hY) 0 (by decide) rfl fk_X7_9 dX7_add_20 ?_
        refine vv_aload_n C 0 dX7_add_23 rfl rfl ?_
        refine vv_geti C kc_X7 (s_X7 hY) 1 (by decide) rfl fk_X7_18 dX7_add_24 ?_
        refine vv_iload_n C 1 dX7_add_27 rfl rfl ?_
        obtain ⟨hi4, h⟩ := h
        refine vv_iast C (a_X7_letters hY) hi4 rfl dX7_add_28 (fun σ5 eσ5 => ?_)
        replace h := h σ5 eσ5
        refine vv_aload_n C 0 dX7_add_29 rfl rfl ?_
        refine vv_dup C dX7_add_30 rfl ?_
        refine vv_geti C kc_X7 (s_X7 hY) 1 (by decide) rfl fk_X7_18 dX7_add_31 ?_
        refine vv_iconst C dX7_add_34 ki_1 ?_
        refine vv_iadd C dX7_add_35 ?_
        refine vv_puti C kc_X7 (s_X7 hY) 1 (by decide) rfl pf_X7_1 fk_X7_18 dX7_add_36 (fun σ6 eσ6 => ?_)
        replace h := h σ6 eσ6
        refine vv_iconst C dX7_add_39 ki_1 ?_
        exact vv_zret C (Or.inr rfl) dX7_add_40 h
      · replace h := h.2 hc3
        refine vv_sub [] (L' := []) rfl ?_
        exact hJk17_0 h
end
